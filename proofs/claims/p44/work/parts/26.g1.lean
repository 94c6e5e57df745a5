/-! laid by wip/p44/class8.py: wp predicates and walks -/
def w_X8_isUser (σ : gk_C) (a0 : Int32) (Q : Int32 → Prop) : Prop := (((a0 < 0) → (Q 0)) ∧ ((¬ a0 < 0) → ((((σ.2 0) ≤ a0) → (Q 0)) ∧ ((¬ (σ.2 0) ≤ a0) → (Q 1)))))
abbrev rmX8_isUser : Room := { frames := 0, cells := 0, slots := 0, locals := 0 }
set_option maxHeartbeats 4000000 in
set_option maxRecDepth 100000 in
theorem c_X8_isUser (l : Launch) (D : va_G) (cI cZ cG cL : ClassId) (ad : Nat → Nat) {σ : gk_C} {a0 : Int32} {Q : Int32 → Prop} {sz : Nat} (hw : w_X8_isUser σ a0 Q) : Met l yX8_isUser wsX8_isUser rmX8_isUser (gk_Pc D cI cZ cG cL ad [.ref (ad 0), .int a0] sz σ) (va_Qi (fun r u => u = σ ∧ Q r) (gk_B D cI ad) (gk_A ad sz)) 0 0 (gk_A ad sz) := by
  refine Met.ofW (cc := cX8_isUser) (maxL := 2) (ret := (some .boolean)) (by decide) rfl ?_
  intro p e s m args below meth c s₁ B hml0 hv0
  obtain ⟨rfl, hsz, hW, hK⟩ := hv0
  subst hsz
  have C0 : gk_F p s m ([.ref (ad 0), .int a0] : List Value).toArray meth c cX8_isUser 2 (some .boolean) RX8 := ⟨B.exec, B.bytes, hml0, findClass_of_methodNamed B.named, fun w hw => atoms_spec (ws := wsX8_isUser) B.pre w (List.mem_cons_of_mem _ hw), B.returns, B.notSynchronized⟩
  obtain ⟨hx, hb, hml, hown, hts, hr, hlocks⟩ := id C0
  have hS : va_S (gk_A ad s.heap.size) s.heap s.heap [] := va_S.rf
  have hl := lv_entry ([.ref (ad 0), .int a0]) (n := 2) (Nat.le_of_ble_eq_true rfl)
  rw [lg_entry_eq]
  generalize (lg_sl ([.ref (ad 0), .int a0]) ++ List.replicate (2 - (lg_sl ([.ref (ad 0), .int a0])).length) Slot.unset).toArray = ls at hl ⊢
  have hl : lv_has ls 2 [(0, .ref (ad 0)), (1, .int a0)] := hl
  show W p l e rmX8_isUser s m _ below meth c s.heap [] 0 0 _ _
  refine lv_iload_n hx hb dX8_isUser_0 rfl (lv_at hl 1 rfl) ?_
  refine lv_if_lt (tgt := 22) hx hb dX8_isUser_1 (by decide) (fun c1 => ?_) (fun c1 => ?_)
  · have hw := hw.1 c1
    refine lv_iconst (v := 0) hx hb dX8_isUser_22 (by decide) ?_
    exact gk_retz C0 (by decide) ⟨rfl, hw⟩ hW hS dX8_isUser_23
  · have hw := hw.2 c1
    refine lv_iload_n hx hb dX8_isUser_4 rfl (lv_at hl 1 rfl) ?_
    refine lv_aload_n hx hb dX8_isUser_5 rfl (lv_at hl 0 rfl) ?_
    refine gk_get hx hb hts iwX8 hown hK.1 (gk_o0 hW) rfl 0 (by decide) (hts _ fl_X8_10) (fun _ h9 => h9) rfl dX8_isUser_6 ?_
    refine gk_getN hx hb hts iwX4 hown hK.1 (gk_o1 hW) rfl 0 (by decide) (gk_nw hK nf_X8_45) (fun _ h9 => h9) rfl dX8_isUser_9 ?_
    refine gk_getN hx hb hts iwX6 hown hK.1 (gk_o2 hW) rfl 0 (by decide) (gk_nw hK nf_X8_49) (fun _ h9 => h9) rfl dX8_isUser_12 ?_
    refine lv_icmp_ge (tgt := 22) hx hb dX8_isUser_15 (by decide) (fun c15 => ?_) (fun c15 => ?_)
    · have hw := hw.1 c15
      refine lv_iconst (v := 0) hx hb dX8_isUser_22 (by decide) ?_
      exact gk_retz C0 (by decide) ⟨rfl, hw⟩ hW hS dX8_isUser_23
    · have hw := hw.2 c15
      refine lv_iconst (v := 1) hx hb dX8_isUser_18 (by decide) ?_
      refine lv_goto (tgt := 23) hx hb dX8_isUser_19 (by decide) ?_
      exact gk_retz C0 (by decide) ⟨rfl, hw⟩ hW hS dX8_isUser_23
def w_X8_isRole (σ : gk_C) (a0 : Int32) (Q : Int32 → Prop) : Prop := (((a0 < 0) → (Q 0)) ∧ ((¬ a0 < 0) → ((((σ.2 1) ≤ a0) → (Q 0)) ∧ ((¬ (σ.2 1) ≤ a0) → (Q 1)))))
abbrev rmX8_isRole : Room := { frames := 0, cells := 0, slots := 0, locals := 0 }
set_option maxHeartbeats 4000000 in
set_option maxRecDepth 100000 in
theorem c_X8_isRole (l : Launch) (D : va_G) (cI cZ cG cL : ClassId) (ad : Nat → Nat) {σ : gk_C} {a0 : Int32} {Q : Int32 → Prop} {sz : Nat} (hw : w_X8_isRole σ a0 Q) : Met l yX8_isRole wsX8_isRole rmX8_isRole (gk_Pc D cI cZ cG cL ad [.ref (ad 0), .int a0] sz σ) (va_Qi (fun r u => u = σ ∧ Q r) (gk_B D cI ad) (gk_A ad sz)) 0 0 (gk_A ad sz) := by
  refine Met.ofW (cc := cX8_isRole) (maxL := 2) (ret := (some .boolean)) (by decide) rfl ?_
  intro p e s m args below meth c s₁ B hml0 hv0
  obtain ⟨rfl, hsz, hW, hK⟩ := hv0
  subst hsz
  have C0 : gk_F p s m ([.ref (ad 0), .int a0] : List Value).toArray meth c cX8_isRole 2 (some .boolean) RX8 := ⟨B.exec, B.bytes, hml0, findClass_of_methodNamed B.named, fun w hw => atoms_spec (ws := wsX8_isRole) B.pre w (List.mem_cons_of_mem _ hw), B.returns, B.notSynchronized⟩
  obtain ⟨hx, hb, hml, hown, hts, hr, hlocks⟩ := id C0
  have hS : va_S (gk_A ad s.heap.size) s.heap s.heap [] := va_S.rf
  have hl := lv_entry ([.ref (ad 0), .int a0]) (n := 2) (Nat.le_of_ble_eq_true rfl)
  rw [lg_entry_eq]
  generalize (lg_sl ([.ref (ad 0), .int a0]) ++ List.replicate (2 - (lg_sl ([.ref (ad 0), .int a0])).length) Slot.unset).toArray = ls at hl ⊢
  have hl : lv_has ls 2 [(0, .ref (ad 0)), (1, .int a0)] := hl
  show W p l e rmX8_isRole s m _ below meth c s.heap [] 0 0 _ _
  refine lv_iload_n hx hb dX8_isRole_0 rfl (lv_at hl 1 rfl) ?_
  refine lv_if_lt (tgt := 22) hx hb dX8_isRole_1 (by decide) (fun c1 => ?_) (fun c1 => ?_)
  · have hw := hw.1 c1
    refine lv_iconst (v := 0) hx hb dX8_isRole_22 (by decide) ?_
    exact gk_retz C0 (by decide) ⟨rfl, hw⟩ hW hS dX8_isRole_23
  · have hw := hw.2 c1
    refine lv_iload_n hx hb dX8_isRole_4 rfl (lv_at hl 1 rfl) ?_
    refine lv_aload_n hx hb dX8_isRole_5 rfl (lv_at hl 0 rfl) ?_
    refine gk_get hx hb hts iwX8 hown hK.1 (gk_o0 hW) rfl 0 (by decide) (hts _ fl_X8_10) (fun _ h9 => h9) rfl dX8_isRole_6 ?_
    refine gk_getN hx hb hts iwX4 hown hK.1 (gk_o1 hW) rfl 1 (by decide) (gk_nw hK nf_X8_62) (fun _ h9 => h9) rfl dX8_isRole_9 ?_
    refine gk_getN hx hb hts iwX1 hown hK.1 (gk_o3 hW) rfl 0 (by decide) (gk_nw hK nf_X8_66) (fun _ h9 => h9) rfl dX8_isRole_12 ?_
    refine lv_icmp_ge (tgt := 22) hx hb dX8_isRole_15 (by decide) (fun c15 => ?_) (fun c15 => ?_)
    · have hw := hw.1 c15
      refine lv_iconst (v := 0) hx hb dX8_isRole_22 (by decide) ?_
      exact gk_retz C0 (by decide) ⟨rfl, hw⟩ hW hS dX8_isRole_23
    · have hw := hw.2 c15
      refine lv_iconst (v := 1) hx hb dX8_isRole_18 (by decide) ?_
      refine lv_goto (tgt := 23) hx hb dX8_isRole_19 (by decide) ?_
      exact gk_retz C0 (by decide) ⟨rfl, hw⟩ hW hS dX8_isRole_23
def w_X8_isResource (σ : gk_C) (a0 : Int32) (Q : Int32 → Prop) : Prop := (((a0 < 0) → (Q 0)) ∧ ((¬ a0 < 0) → ((((σ.2 3) ≤ a0) → (Q 0)) ∧ ((¬ (σ.2 3) ≤ a0) → (Q 1)))))
abbrev rmX8_isResource : Room := { frames := 0, cells := 0, slots := 0, locals := 0 }
set_option maxHeartbeats 4000000 in
set_option maxRecDepth 100000 in
theorem c_X8_isResource (l : Launch) (D : va_G) (cI cZ cG cL : ClassId) (ad : Nat → Nat) {σ : gk_C} {a0 : Int32} {Q : Int32 → Prop} {sz : Nat} (hw : w_X8_isResource σ a0 Q) : Met l yX8_isResource wsX8_isResource rmX8_isResource (gk_Pc D cI cZ cG cL ad [.ref (ad 0), .int a0] sz σ) (va_Qi (fun r u => u = σ ∧ Q r) (gk_B D cI ad) (gk_A ad sz)) 0 0 (gk_A ad sz) := by
  refine Met.ofW (cc := cX8_isResource) (maxL := 2) (ret := (some .boolean)) (by decide) rfl ?_
  intro p e s m args below meth c s₁ B hml0 hv0
  obtain ⟨rfl, hsz, hW, hK⟩ := hv0
  subst hsz
  have C0 : gk_F p s m ([.ref (ad 0), .int a0] : List Value).toArray meth c cX8_isResource 2 (some .boolean) RX8 := ⟨B.exec, B.bytes, hml0, findClass_of_methodNamed B.named, fun w hw => atoms_spec (ws := wsX8_isResource) B.pre w (List.mem_cons_of_mem _ hw), B.returns, B.notSynchronized⟩
  obtain ⟨hx, hb, hml, hown, hts, hr, hlocks⟩ := id C0
  have hS : va_S (gk_A ad s.heap.size) s.heap s.heap [] := va_S.rf
  have hl := lv_entry ([.ref (ad 0), .int a0]) (n := 2) (Nat.le_of_ble_eq_true rfl)
  rw [lg_entry_eq]
  generalize (lg_sl ([.ref (ad 0), .int a0]) ++ List.replicate (2 - (lg_sl ([.ref (ad 0), .int a0])).length) Slot.unset).toArray = ls at hl ⊢
  have hl : lv_has ls 2 [(0, .ref (ad 0)), (1, .int a0)] := hl
  show W p l e rmX8_isResource s m _ below meth c s.heap [] 0 0 _ _
  refine lv_iload_n hx hb dX8_isResource_0 rfl (lv_at hl 1 rfl) ?_
  refine lv_if_lt (tgt := 22) hx hb dX8_isResource_1 (by decide) (fun c1 => ?_) (fun c1 => ?_)
  · have hw := hw.1 c1
    refine lv_iconst (v := 0) hx hb dX8_isResource_22 (by decide) ?_
    exact gk_retz C0 (by decide) ⟨rfl, hw⟩ hW hS dX8_isResource_23
  · have hw := hw.2 c1
    refine lv_iload_n hx hb dX8_isResource_4 rfl (lv_at hl 1 rfl) ?_
    refine lv_aload_n hx hb dX8_isResource_5 rfl (lv_at hl 0 rfl) ?_
    refine gk_get hx hb hts iwX8 hown hK.1 (gk_o0 hW) rfl 0 (by decide) (hts _ fl_X8_10) (fun _ h9 => h9) rfl dX8_isResource_6 ?_
    refine gk_getN hx hb hts iwX4 hown hK.1 (gk_o1 hW) rfl 2 (by decide) (gk_nw hK nf_X8_79) (fun _ h9 => h9) rfl dX8_isResource_9 ?_
    refine gk_getN hx hb hts iwX5 hown hK.1 (gk_o4 hW) rfl 0 (by decide) (gk_nw hK nf_X8_83) (fun _ h9 => h9) rfl dX8_isResource_12 ?_
    refine lv_icmp_ge (tgt := 22) hx hb dX8_isResource_15 (by decide) (fun c15 => ?_) (fun c15 => ?_)
    · have hw := hw.1 c15
      refine lv_iconst (v := 0) hx hb dX8_isResource_22 (by decide) ?_
      exact gk_retz C0 (by decide) ⟨rfl, hw⟩ hW hS dX8_isResource_23
    · have hw := hw.2 c15
      refine lv_iconst (v := 1) hx hb dX8_isResource_18 (by decide) ?_
      refine lv_goto (tgt := 23) hx hb dX8_isResource_19 (by decide) ?_
      exact gk_retz C0 (by decide) ⟨rfl, hw⟩ hW hS dX8_isResource_23
def w_X8_isRule (σ : gk_C) (a0 : Int32) (Q : Int32 → Prop) : Prop := (((a0 < 0) → (Q 0)) ∧ ((¬ a0 < 0) → ((((σ.2 4) ≤ a0) → (Q 0)) ∧ ((¬ (σ.2 4) ≤ a0) → (Q 1)))))
abbrev rmX8_isRule : Room := { frames := 0, cells := 0, slots := 0, locals := 0 }
set_option maxHeartbeats 4000000 in
set_option maxRecDepth 100000 in
theorem c_X8_isRule (l : Launch) (D : va_G) (cI cZ cG cL : ClassId) (ad : Nat → Nat) {σ : gk_C} {a0 : Int32} {Q : Int32 → Prop} {sz : Nat} (hw : w_X8_isRule σ a0 Q) : Met l yX8_isRule wsX8_isRule rmX8_isRule (gk_Pc D cI cZ cG cL ad [.ref (ad 0), .int a0] sz σ) (va_Qi (fun r u => u = σ ∧ Q r) (gk_B D cI ad) (gk_A ad sz)) 0 0 (gk_A ad sz) := by
  refine Met.ofW (cc := cX8_isRule) (maxL := 2) (ret := (some .boolean)) (by decide) rfl ?_
  intro p e s m args below meth c s₁ B hml0 hv0
  obtain ⟨rfl, hsz, hW, hK⟩ := hv0
  subst hsz
  have C0 : gk_F p s m ([.ref (ad 0), .int a0] : List Value).toArray meth c cX8_isRule 2 (some .boolean) RX8 := ⟨B.exec, B.bytes, hml0, findClass_of_methodNamed B.named, fun w hw => atoms_spec (ws := wsX8_isRule) B.pre w (List.mem_cons_of_mem _ hw), B.returns, B.notSynchronized⟩
  obtain ⟨hx, hb, hml, hown, hts, hr, hlocks⟩ := id C0
  have hS : va_S (gk_A ad s.heap.size) s.heap s.heap [] := va_S.rf
  have hl := lv_entry ([.ref (ad 0), .int a0]) (n := 2) (Nat.le_of_ble_eq_true rfl)
  rw [lg_entry_eq]
  generalize (lg_sl ([.ref (ad 0), .int a0]) ++ List.replicate (2 - (lg_sl ([.ref (ad 0), .int a0])).length) Slot.unset).toArray = ls at hl ⊢
  have hl : lv_has ls 2 [(0, .ref (ad 0)), (1, .int a0)] := hl
  show W p l e rmX8_isRule s m _ below meth c s.heap [] 0 0 _ _
  refine lv_iload_n hx hb dX8_isRule_0 rfl (lv_at hl 1 rfl) ?_
  refine lv_if_lt (tgt := 22) hx hb dX8_isRule_1 (by decide) (fun c1 => ?_) (fun c1 => ?_)
  · have hw := hw.1 c1
    refine lv_iconst (v := 0) hx hb dX8_isRule_22 (by decide) ?_
    exact gk_retz C0 (by decide) ⟨rfl, hw⟩ hW hS dX8_isRule_23
  · have hw := hw.2 c1
    refine lv_iload_n hx hb dX8_isRule_4 rfl (lv_at hl 1 rfl) ?_
    refine lv_aload_n hx hb dX8_isRule_5 rfl (lv_at hl 0 rfl) ?_
    refine gk_get hx hb hts iwX8 hown hK.1 (gk_o0 hW) rfl 0 (by decide) (hts _ fl_X8_10) (fun _ h9 => h9) rfl dX8_isRule_6 ?_
    refine gk_getN hx hb hts iwX4 hown hK.1 (gk_o1 hW) rfl 3 (by decide) (gk_nw hK nf_X8_152) (fun _ h9 => h9) rfl dX8_isRule_9 ?_
    refine gk_getN hx hb hts iwX3 hown hK.1 (gk_o5 hW) rfl 0 (by decide) (gk_nw hK nf_X8_156) (fun _ h9 => h9) rfl dX8_isRule_12 ?_
    refine lv_icmp_ge (tgt := 22) hx hb dX8_isRule_15 (by decide) (fun c15 => ?_) (fun c15 => ?_)
    · have hw := hw.1 c15
      refine lv_iconst (v := 0) hx hb dX8_isRule_22 (by decide) ?_
      exact gk_retz C0 (by decide) ⟨rfl, hw⟩ hW hS dX8_isRule_23
    · have hw := hw.2 c15
      refine lv_iconst (v := 1) hx hb dX8_isRule_18 (by decide) ?_
      refine lv_goto (tgt := 23) hx hb dX8_isRule_19 (by decide) ?_
      exact gk_retz C0 (by decide) ⟨rfl, hw⟩ hW hS dX8_isRule_23
def w_X8_isGrant (σ : gk_C) (a0 : Int32) (Q : Int32 → Prop) : Prop := (((a0 < 0) → (Q 0)) ∧ ((¬ a0 < 0) → ((((σ.2 5) ≤ a0) → (Q 0)) ∧ ((¬ (σ.2 5) ≤ a0) → (Q 1)))))
abbrev rmX8_isGrant : Room := { frames := 0, cells := 0, slots := 0, locals := 0 }
set_option maxHeartbeats 4000000 in
set_option maxRecDepth 100000 in
theorem c_X8_isGrant (l : Launch) (D : va_G) (cI cZ cG cL : ClassId) (ad : Nat → Nat) {σ : gk_C} {a0 : Int32} {Q : Int32 → Prop} {sz : Nat} (hw : w_X8_isGrant σ a0 Q) : Met l yX8_isGrant wsX8_isGrant rmX8_isGrant (gk_Pc D cI cZ cG cL ad [.ref (ad 0), .int a0] sz σ) (va_Qi (fun r u => u = σ ∧ Q r) (gk_B D cI ad) (gk_A ad sz)) 0 0 (gk_A ad sz) := by
  refine Met.ofW (cc := cX8_isGrant) (maxL := 2) (ret := (some .boolean)) (by decide) rfl ?_
  intro p e s m args below meth c s₁ B hml0 hv0
  obtain ⟨rfl, hsz, hW, hK⟩ := hv0
  subst hsz
  have C0 : gk_F p s m ([.ref (ad 0), .int a0] : List Value).toArray meth c cX8_isGrant 2 (some .boolean) RX8 := ⟨B.exec, B.bytes, hml0, findClass_of_methodNamed B.named, fun w hw => atoms_spec (ws := wsX8_isGrant) B.pre w (List.mem_cons_of_mem _ hw), B.returns, B.notSynchronized⟩
  obtain ⟨hx, hb, hml, hown, hts, hr, hlocks⟩ := id C0
  have hS : va_S (gk_A ad s.heap.size) s.heap s.heap [] := va_S.rf
  have hl := lv_entry ([.ref (ad 0), .int a0]) (n := 2) (Nat.le_of_ble_eq_true rfl)
  rw [lg_entry_eq]
  generalize (lg_sl ([.ref (ad 0), .int a0]) ++ List.replicate (2 - (lg_sl ([.ref (ad 0), .int a0])).length) Slot.unset).toArray = ls at hl ⊢
  have hl : lv_has ls 2 [(0, .ref (ad 0)), (1, .int a0)] := hl
  show W p l e rmX8_isGrant s m _ below meth c s.heap [] 0 0 _ _
  refine lv_iload_n hx hb dX8_isGrant_0 rfl (lv_at hl 1 rfl) ?_
  refine lv_if_lt (tgt := 22) hx hb dX8_isGrant_1 (by decide) (fun c1 => ?_) (fun c1 => ?_)
  · have hw := hw.1 c1
    refine lv_iconst (v := 0) hx hb dX8_isGrant_22 (by decide) ?_
    exact gk_retz C0 (by decide) ⟨rfl, hw⟩ hW hS dX8_isGrant_23
  · have hw := hw.2 c1
    refine lv_iload_n hx hb dX8_isGrant_4 rfl (lv_at hl 1 rfl) ?_
    refine lv_aload_n hx hb dX8_isGrant_5 rfl (lv_at hl 0 rfl) ?_
    refine gk_get hx hb hts iwX8 hown hK.1 (gk_o0 hW) rfl 0 (by decide) (hts _ fl_X8_10) (fun _ h9 => h9) rfl dX8_isGrant_6 ?_
    refine gk_getN hx hb hts iwX4 hown hK.1 (gk_o1 hW) rfl 4 (by decide) (gk_nw hK nf_X8_204) (fun _ h9 => h9) rfl dX8_isGrant_9 ?_
    refine gk_getN hx hb hts iwX0 hown hK.1 (gk_o6 hW) rfl 0 (by decide) (gk_nw hK nf_X8_208) (fun _ h9 => h9) rfl dX8_isGrant_12 ?_
    refine lv_icmp_ge (tgt := 22) hx hb dX8_isGrant_15 (by decide) (fun c15 => ?_) (fun c15 => ?_)
    · have hw := hw.1 c15
      refine lv_iconst (v := 0) hx hb dX8_isGrant_22 (by decide) ?_
      exact gk_retz C0 (by decide) ⟨rfl, hw⟩ hW hS dX8_isGrant_23
    · have hw := hw.2 c15
      refine lv_iconst (v := 1) hx hb dX8_isGrant_18 (by decide) ?_
      refine lv_goto (tgt := 23) hx hb dX8_isGrant_19 (by decide) ?_
      exact gk_retz C0 (by decide) ⟨rfl, hw⟩ hW hS dX8_isGrant_23
def w_X8_users (σ : gk_C)  (Q : Int32 → Prop) : Prop := (Q (σ.2 0))
abbrev rmX8_users : Room := { frames := 0, cells := 0, slots := 0, locals := 0 }
set_option maxHeartbeats 4000000 in
set_option maxRecDepth 100000 in
theorem c_X8_users (l : Launch) (D : va_G) (cI cZ cG cL : ClassId) (ad : Nat → Nat) {σ : gk_C} {Q : Int32 → Prop} {sz : Nat} (hw : w_X8_users σ  Q) : Met l yX8_users wsX8_users rmX8_users (gk_Pc D cI cZ cG cL ad [.ref (ad 0)] sz σ) (va_Qi (fun r u => u = σ ∧ Q r) (gk_B D cI ad) (gk_A ad sz)) 0 0 (gk_A ad sz) := by
  refine Met.ofW (cc := cX8_users) (maxL := 1) (ret := (some .int)) (by decide) rfl ?_
  intro p e s m args below meth c s₁ B hml0 hv0
  obtain ⟨rfl, hsz, hW, hK⟩ := hv0
  subst hsz
  have C0 : gk_F p s m ([.ref (ad 0)] : List Value).toArray meth c cX8_users 1 (some .int) RX8 := ⟨B.exec, B.bytes, hml0, findClass_of_methodNamed B.named, fun w hw => atoms_spec (ws := wsX8_users) B.pre w (List.mem_cons_of_mem _ hw), B.returns, B.notSynchronized⟩
  obtain ⟨hx, hb, hml, hown, hts, hr, hlocks⟩ := id C0
  have hS : va_S (gk_A ad s.heap.size) s.heap s.heap [] := va_S.rf
  have hl := lv_entry ([.ref (ad 0)]) (n := 1) (Nat.le_of_ble_eq_true rfl)
  rw [lg_entry_eq]
  generalize (lg_sl ([.ref (ad 0)]) ++ List.replicate (1 - (lg_sl ([.ref (ad 0)])).length) Slot.unset).toArray = ls at hl ⊢
  have hl : lv_has ls 1 [(0, .ref (ad 0))] := hl
  show W p l e rmX8_users s m _ below meth c s.heap [] 0 0 _ _
  refine lv_aload_n hx hb dX8_users_0 rfl (lv_at hl 0 rfl) ?_
  refine gk_get hx hb hts iwX8 hown hK.1 (gk_o0 hW) rfl 0 (by decide) (hts _ fl_X8_10) (fun _ h9 => h9) rfl dX8_users_1 ?_
  refine gk_getN hx hb hts iwX4 hown hK.1 (gk_o1 hW) rfl 0 (by decide) (gk_nw hK nf_X8_45) (fun _ h9 => h9) rfl dX8_users_4 ?_
  refine gk_getN hx hb hts iwX6 hown hK.1 (gk_o2 hW) rfl 0 (by decide) (gk_nw hK nf_X8_49) (fun _ h9 => h9) rfl dX8_users_7 ?_
  exact gk_reti C0 ⟨rfl, hw⟩ hW hS dX8_users_10
def w_X8_roles (σ : gk_C)  (Q : Int32 → Prop) : Prop := (Q (σ.2 1))
abbrev rmX8_roles : Room := { frames := 0, cells := 0, slots := 0, locals := 0 }
set_option maxHeartbeats 4000000 in
set_option maxRecDepth 100000 in
theorem c_X8_roles (l : Launch) (D : va_G) (cI cZ cG cL : ClassId) (ad : Nat → Nat) {σ : gk_C} {Q : Int32 → Prop} {sz : Nat} (hw : w_X8_roles σ  Q) : Met l yX8_roles wsX8_roles rmX8_roles (gk_Pc D cI cZ cG cL ad [.ref (ad 0)] sz σ) (va_Qi (fun r u => u = σ ∧ Q r) (gk_B D cI ad) (gk_A ad sz)) 0 0 (gk_A ad sz) := by
  refine Met.ofW (cc := cX8_roles) (maxL := 1) (ret := (some .int)) (by decide) rfl ?_
  intro p e s m args below meth c s₁ B hml0 hv0
  obtain ⟨rfl, hsz, hW, hK⟩ := hv0
  subst hsz
  have C0 : gk_F p s m ([.ref (ad 0)] : List Value).toArray meth c cX8_roles 1 (some .int) RX8 := ⟨B.exec, B.bytes, hml0, findClass_of_methodNamed B.named, fun w hw => atoms_spec (ws := wsX8_roles) B.pre w (List.mem_cons_of_mem _ hw), B.returns, B.notSynchronized⟩
  obtain ⟨hx, hb, hml, hown, hts, hr, hlocks⟩ := id C0
  have hS : va_S (gk_A ad s.heap.size) s.heap s.heap [] := va_S.rf
  have hl := lv_entry ([.ref (ad 0)]) (n := 1) (Nat.le_of_ble_eq_true rfl)
  rw [lg_entry_eq]
  generalize (lg_sl ([.ref (ad 0)]) ++ List.replicate (1 - (lg_sl ([.ref (ad 0)])).length) Slot.unset).toArray = ls at hl ⊢
  have hl : lv_has ls 1 [(0, .ref (ad 0))] := hl
  show W p l e rmX8_roles s m _ below meth c s.heap [] 0 0 _ _
  refine lv_aload_n hx hb dX8_roles_0 rfl (lv_at hl 0 rfl) ?_
  refine gk_get hx hb hts iwX8 hown hK.1 (gk_o0 hW) rfl 0 (by decide) (hts _ fl_X8_10) (fun _ h9 => h9) rfl dX8_roles_1 ?_
  refine gk_getN hx hb hts iwX4 hown hK.1 (gk_o1 hW) rfl 1 (by decide) (gk_nw hK nf_X8_62) (fun _ h9 => h9) rfl dX8_roles_4 ?_
  refine gk_getN hx hb hts iwX1 hown hK.1 (gk_o3 hW) rfl 0 (by decide) (gk_nw hK nf_X8_66) (fun _ h9 => h9) rfl dX8_roles_7 ?_
  exact gk_reti C0 ⟨rfl, hw⟩ hW hS dX8_roles_10
def w_X8_resources (σ : gk_C)  (Q : Int32 → Prop) : Prop := (Q (σ.2 3))
abbrev rmX8_resources : Room := { frames := 0, cells := 0, slots := 0, locals := 0 }
set_option maxHeartbeats 4000000 in
set_option maxRecDepth 100000 in
theorem c_X8_resources (l : Launch) (D : va_G) (cI cZ cG cL : ClassId) (ad : Nat → Nat) {σ : gk_C} {Q : Int32 → Prop} {sz : Nat} (hw : w_X8_resources σ  Q) : Met l yX8_resources wsX8_resources rmX8_resources (gk_Pc D cI cZ cG cL ad [.ref (ad 0)] sz σ) (va_Qi (fun r u => u = σ ∧ Q r) (gk_B D cI ad) (gk_A ad sz)) 0 0 (gk_A ad sz) := by
  refine Met.ofW (cc := cX8_resources) (maxL := 1) (ret := (some .int)) (by decide) rfl ?_
  intro p e s m args below meth c s₁ B hml0 hv0
  obtain ⟨rfl, hsz, hW, hK⟩ := hv0
  subst hsz
  have C0 : gk_F p s m ([.ref (ad 0)] : List Value).toArray meth c cX8_resources 1 (some .int) RX8 := ⟨B.exec, B.bytes, hml0, findClass_of_methodNamed B.named, fun w hw => atoms_spec (ws := wsX8_resources) B.pre w (List.mem_cons_of_mem _ hw), B.returns, B.notSynchronized⟩
  obtain ⟨hx, hb, hml, hown, hts, hr, hlocks⟩ := id C0
  have hS : va_S (gk_A ad s.heap.size) s.heap s.heap [] := va_S.rf
  have hl := lv_entry ([.ref (ad 0)]) (n := 1) (Nat.le_of_ble_eq_true rfl)
  rw [lg_entry_eq]
  generalize (lg_sl ([.ref (ad 0)]) ++ List.replicate (1 - (lg_sl ([.ref (ad 0)])).length) Slot.unset).toArray = ls at hl ⊢
  have hl : lv_has ls 1 [(0, .ref (ad 0))] := hl
  show W p l e rmX8_resources s m _ below meth c s.heap [] 0 0 _ _
  refine lv_aload_n hx hb dX8_resources_0 rfl (lv_at hl 0 rfl) ?_
  refine gk_get hx hb hts iwX8 hown hK.1 (gk_o0 hW) rfl 0 (by decide) (hts _ fl_X8_10) (fun _ h9 => h9) rfl dX8_resources_1 ?_
  refine gk_getN hx hb hts iwX4 hown hK.1 (gk_o1 hW) rfl 2 (by decide) (gk_nw hK nf_X8_79) (fun _ h9 => h9) rfl dX8_resources_4 ?_
  refine gk_getN hx hb hts iwX5 hown hK.1 (gk_o4 hW) rfl 0 (by decide) (gk_nw hK nf_X8_83) (fun _ h9 => h9) rfl dX8_resources_7 ?_
  exact gk_reti C0 ⟨rfl, hw⟩ hW hS dX8_resources_10
def wL_X8_isAnyoneWith_2 (σ : gk_C) (Q : Int32 → Prop) : Nat → Int32 → Int32 → Int32 → Prop
  | 0 => fun _ _ _ => False
  | n + 1 => fun x1 x2 x3 => ((((σ.2 0) ≤ x3) → (Q 0)) ∧ ((¬ (σ.2 0) ≤ x3) → (w_X1_hadWith σ (gk_at σ 2 x3) (fun r37 => w_X8_isIn r37 x1 (fun r45 => ((r45 = 0) → (wL_X8_isAnyoneWith_2 σ Q n x1 x2 (x3 + 1))) ∧ ((¬ r45 = 0) → (w_X8_isIn r37 x2 (fun r54 => ((r54 = 0) → (wL_X8_isAnyoneWith_2 σ Q n x1 x2 (x3 + 1))) ∧ ((¬ r54 = 0) → (Q 1))))))))))
def w_X8_isAnyoneWith (σ : gk_C) (a0 : Int32) (a1 : Int32) (Q : Int32 → Prop) : Prop := (∃ n2, wL_X8_isAnyoneWith_2 σ Q n2 a0 a1 0)
abbrev rmX8_isAnyoneWith : Room := { frames := 3, cells := 0, slots := 0, locals := 68 }
set_option maxHeartbeats 4000000 in
set_option maxRecDepth 100000 in
theorem tL_X8_isAnyoneWith_2 {p : Program} {l : Launch} {e : Env} {s : State} {m : MethodId} {args : Array Value} {below : List Frame} {meth : Method} {c : Code} {D : va_G} {cI cZ cG cL : ClassId} {ad : Nat → Nat} (C0 : gk_F p s m args meth c cX8_isAnyoneWith 5 (some .boolean) RX8) (hK : gk_K D cI cZ cG cL s) {σ : gk_C} {Q : Int32 → Prop} : ∀ (n : Nat) (x1 : Int32) (x2 : Int32) (x3 : Int32), wL_X8_isAnyoneWith_2 σ Q n x1 x2 x3 → ∀ (H : Heap) (locs : List Loc), gk_W D cI ad σ H → va_S (gk_A ad s.heap.size) s.heap H locs → ∀ (ls : Array Slot), lv_has ls 5 [(0, .ref (ad 0)), (1, .int x1), (2, .int x2), (3, .int x3)] → W p l e rmX8_isAnyoneWith s m args below meth c H locs 0 0 (MQ below (va_Qi (fun r u => u = σ ∧ Q r) (gk_B D cI ad) (gk_A ad s.heap.size)) args s 0 0 (gk_A ad s.heap.size)) (F0 m 2 ls []) := by
  obtain ⟨hx, hb, hml, hown, hts, hr, hlocks⟩ := id C0
  intro n
  induction n with
  | zero => exact fun _ _ _ hw => False.elim hw
  | succ n ih =>
    intro x1 x2 x3 hw H locs hW hS ls hl
    refine lv_iload_n hx hb dX8_isAnyoneWith_2 rfl (lv_at hl 3 rfl) ?_
    refine lv_aload_n hx hb dX8_isAnyoneWith_3 rfl (lv_at hl 0 rfl) ?_
    refine gk_get hx hb hts iwX8 hown hK.1 (gk_o0 hW) rfl 0 (by decide) (hts _ fl_X8_10) (fun _ h9 => h9) rfl dX8_isAnyoneWith_4 ?_
    refine gk_getN hx hb hts iwX4 hown hK.1 (gk_o1 hW) rfl 0 (by decide) (gk_nw hK nf_X8_45) (fun _ h9 => h9) rfl dX8_isAnyoneWith_7 ?_
    refine gk_getN hx hb hts iwX6 hown hK.1 (gk_o2 hW) rfl 0 (by decide) (gk_nw hK nf_X8_49) (fun _ h9 => h9) rfl dX8_isAnyoneWith_10 ?_
    refine lv_icmp_ge (tgt := 68) hx hb dX8_isAnyoneWith_13 (by decide) (fun c13 => ?_) (fun c13 => ?_)
    · have hw := hw.1 c13
      refine lv_iconst (v := 0) hx hb dX8_isAnyoneWith_68 (by decide) ?_
      exact gk_retz C0 (by decide) ⟨rfl, hw⟩ hW hS dX8_isAnyoneWith_69
    · have hw := hw.2 c13
      refine lv_aload_n hx hb dX8_isAnyoneWith_16 rfl (lv_at hl 0 rfl) ?_
      refine gk_get hx hb hts iwX8 hown hK.1 (gk_o0 hW) rfl 0 (by decide) (hts _ fl_X8_10) (fun _ h9 => h9) rfl dX8_isAnyoneWith_17 ?_
      refine gk_getN hx hb hts iwX4 hown hK.1 (gk_o1 hW) rfl 1 (by decide) (gk_nw hK nf_X8_62) (fun _ h9 => h9) rfl dX8_isAnyoneWith_20 ?_
      refine lv_aload_n hx hb dX8_isAnyoneWith_23 rfl (lv_at hl 0 rfl) ?_
      refine gk_get hx hb hts iwX8 hown hK.1 (gk_o0 hW) rfl 0 (by decide) (hts _ fl_X8_10) (fun _ h9 => h9) rfl dX8_isAnyoneWith_24 ?_
      refine gk_getN hx hb hts iwX4 hown hK.1 (gk_o1 hW) rfl 0 (by decide) (gk_nw hK nf_X8_45) (fun _ h9 => h9) rfl dX8_isAnyoneWith_27 ?_
      refine gk_getN hx hb hts iwX6 hown hK.1 (gk_o2 hW) rfl 3 (by decide) (gk_nw hK nf_X8_95) (fun _ h9 => h9) rfl dX8_isAnyoneWith_30 ?_
      refine lv_iload_n hx hb dX8_isAnyoneWith_33 rfl (lv_at hl 3 rfl) ?_
      refine gk_callRi ⟨hx, hb, hml, hown, hts⟩ (c_X2_at l D cI cZ cG cL ad (σ := σ) (r := 2) (i := x3) (by decide)) (cwV 1 hts (gk_gV ml_X8_98 im_X2_at se_X2_at in_X2 co_X2_at) rfl rfl rfl (by decide +kernel) ⟨Nat.le_of_ble_eq_true rfl, Nat.le_of_ble_eq_true rfl⟩) (gk_recv hK.1 (gk_or hW (r := 2) (by decide)) rfl) hW hK hS rfl hl.1 (rest := [.ref (ad 3)]) rfl (lv_room (Nat.le_of_ble_eq_true rfl)) dX8_isAnyoneWith_34 ⟨Nat.zero_le _, Nat.zero_le _⟩ (fun r34 H locs hq hW _ hS => ?_)
      obtain rfl := hq
      refine gk_callRi ⟨hx, hb, hml, hown, hts⟩ (c_X1_hadWith l D cI cZ cG cL ad hw) (cwV 1 hts (gk_gV ml_X8_101 im_X1_hadWith se_X1_hadWith in_X1 co_X1_hadWith) rfl rfl rfl (by decide +kernel) ⟨Nat.le_of_ble_eq_true rfl, Nat.le_of_ble_eq_true rfl⟩) (gk_recv hK.1 (gk_o3 hW) rfl) hW hK hS rfl hl.1 (rest := []) rfl (lv_room (Nat.le_of_ble_eq_true rfl)) dX8_isAnyoneWith_37 ⟨Nat.zero_le _, Nat.zero_le _⟩ (fun r37 H locs hw hW _ hS => ?_)
      refine lv_istore (lv' := [(4, .int r37), (0, .ref (ad 0)), (1, .int x1), (2, .int x2), (3, .int x3)]) hx hb dX8_isAnyoneWith_40 hl (by decide) rfl (fun ls hl => ?_)
      refine lv_iload hx hb dX8_isAnyoneWith_42 (lv_at hl 0 rfl) ?_
      refine lv_iload_n hx hb dX8_isAnyoneWith_44 rfl (lv_at hl 2 rfl) ?_
      refine gk_callSi ⟨hx, hb, hml, hown, hts⟩ (c_X8_isIn l hw) (va_cwS 2 hts (gk_gS ml_X8_110 st_X8_isIn in_X8 co_X8_isIn) rfl rfl rfl (by decide +kernel) ⟨Nat.le_of_ble_eq_true rfl, Nat.le_of_ble_eq_true rfl⟩) hS rfl hl.1 (rest := []) rfl (lv_room (Nat.le_of_ble_eq_true rfl)) dX8_isAnyoneWith_45 ⟨Nat.zero_le _, Nat.zero_le _⟩ (fun r45 H locs hw _ hk hS => ?_)
      have hW := hW.kept (fun k hk9 => hk _ (hW.lt hk9))
      refine lv_if_eq (tgt := 62) hx hb dX8_isAnyoneWith_48 (by decide) (fun c48 => ?_) (fun c48 => ?_)
      · have hw := hw.1 c48
        refine lv_iinc (v := (x3 + 1)) (lv' := [(3, .int (x3 + 1)), (4, .int r37), (0, .ref (ad 0)), (1, .int x1), (2, .int x2)]) hx hb dX8_isAnyoneWith_62 hl (k := 4) rfl rfl (by decide) rfl (fun ls hl => ?_)
        refine lv_goto (tgt := 2) hx hb dX8_isAnyoneWith_65 (by decide) ?_
        exact ih x1 x2 (x3 + 1) hw _ _ hW hS _ (lv_sub hl [2, 3, 4, 0] rfl)
      · have hw := hw.2 c48
        refine lv_iload hx hb dX8_isAnyoneWith_51 (lv_at hl 0 rfl) ?_
        refine lv_iload_n hx hb dX8_isAnyoneWith_53 rfl (lv_at hl 3 rfl) ?_
        refine gk_callSi ⟨hx, hb, hml, hown, hts⟩ (c_X8_isIn l hw) (va_cwS 2 hts (gk_gS ml_X8_110 st_X8_isIn in_X8 co_X8_isIn) rfl rfl rfl (by decide +kernel) ⟨Nat.le_of_ble_eq_true rfl, Nat.le_of_ble_eq_true rfl⟩) hS rfl hl.1 (rest := []) rfl (lv_room (Nat.le_of_ble_eq_true rfl)) dX8_isAnyoneWith_54 ⟨Nat.zero_le _, Nat.zero_le _⟩ (fun r54 H locs hw _ hk hS => ?_)
        have hW := hW.kept (fun k hk9 => hk _ (hW.lt hk9))
        refine lv_if_eq (tgt := 62) hx hb dX8_isAnyoneWith_57 (by decide) (fun c57 => ?_) (fun c57 => ?_)
        · have hw := hw.1 c57
          refine lv_iinc (v := (x3 + 1)) (lv' := [(3, .int (x3 + 1)), (4, .int r37), (0, .ref (ad 0)), (1, .int x1), (2, .int x2)]) hx hb dX8_isAnyoneWith_62 hl (k := 4) rfl rfl (by decide) rfl (fun ls hl => ?_)
          refine lv_goto (tgt := 2) hx hb dX8_isAnyoneWith_65 (by decide) ?_
          exact ih x1 x2 (x3 + 1) hw _ _ hW hS _ (lv_sub hl [2, 3, 4, 0] rfl)
        · have hw := hw.2 c57
          refine lv_iconst (v := 1) hx hb dX8_isAnyoneWith_60 (by decide) ?_
          exact gk_retz C0 (by decide) ⟨rfl, hw⟩ hW hS dX8_isAnyoneWith_61
set_option maxHeartbeats 4000000 in
set_option maxRecDepth 100000 in
theorem c_X8_isAnyoneWith (l : Launch) (D : va_G) (cI cZ cG cL : ClassId) (ad : Nat → Nat) {σ : gk_C} {a0 : Int32} {a1 : Int32} {Q : Int32 → Prop} {sz : Nat} (hw : w_X8_isAnyoneWith σ a0 a1 Q) : Met l yX8_isAnyoneWith wsX8_isAnyoneWith rmX8_isAnyoneWith (gk_Pc D cI cZ cG cL ad [.ref (ad 0), .int a0, .int a1] sz σ) (va_Qi (fun r u => u = σ ∧ Q r) (gk_B D cI ad) (gk_A ad sz)) 0 0 (gk_A ad sz) := by
  refine Met.ofW (cc := cX8_isAnyoneWith) (maxL := 5) (ret := (some .boolean)) (by decide) rfl ?_
  intro p e s m args below meth c s₁ B hml0 hv0
  obtain ⟨rfl, hsz, hW, hK⟩ := hv0
  subst hsz
  have C0 : gk_F p s m ([.ref (ad 0), .int a0, .int a1] : List Value).toArray meth c cX8_isAnyoneWith 5 (some .boolean) RX8 := ⟨B.exec, B.bytes, hml0, findClass_of_methodNamed B.named, fun w hw => atoms_spec (ws := wsX8_isAnyoneWith) B.pre w (List.mem_cons_of_mem _ hw), B.returns, B.notSynchronized⟩
  obtain ⟨hx, hb, hml, hown, hts, hr, hlocks⟩ := id C0
  have hS : va_S (gk_A ad s.heap.size) s.heap s.heap [] := va_S.rf
  have hl := lv_entry ([.ref (ad 0), .int a0, .int a1]) (n := 5) (Nat.le_of_ble_eq_true rfl)
  rw [lg_entry_eq]
  generalize (lg_sl ([.ref (ad 0), .int a0, .int a1]) ++ List.replicate (5 - (lg_sl ([.ref (ad 0), .int a0, .int a1])).length) Slot.unset).toArray = ls at hl ⊢
  have hl : lv_has ls 5 [(0, .ref (ad 0)), (1, .int a0), (2, .int a1)] := hl
  show W p l e rmX8_isAnyoneWith s m _ below meth c s.heap [] 0 0 _ _
  refine lv_iconst (v := 0) hx hb dX8_isAnyoneWith_0 (by decide) ?_
  refine lv_istore_n (lv' := [(3, .int 0), (0, .ref (ad 0)), (1, .int a0), (2, .int a1)]) hx hb dX8_isAnyoneWith_1 rfl hl (by decide) rfl (fun ls hl => ?_)
  obtain ⟨n2, hw⟩ := hw
  refine tL_X8_isAnyoneWith_2 C0 hK  n2 a0 a1 0 hw _ _ hW hS _ (lv_sub hl [1, 2, 3, 0] rfl)
def wL_X8_wouldSplitSomeone_17 (Q : Int32 → gk_C → Prop) : Nat → gk_C → Int32 → Int32 → Int32 → Prop
  | 0 => fun _ _ _ _ => False
  | n + 1 => fun σ x1 x3 x4 => ((((σ.2 0) ≤ x4) → (Q 0 σ)) ∧ ((¬ (σ.2 0) ≤ x4) → (w_X1_hadWith σ (gk_at σ 2 x4) (fun r54 => w_X8_isIn r54 x1 (fun r62 => ((r62 = 0) → (wL_X8_wouldSplitSomeone_17 Q n σ x1 x3 (x4 + 1))) ∧ ((¬ r62 = 0) → (w_X1_isSplit σ (r54 ||| x3) (fun r79 => ((r79 = 0) → (wL_X8_wouldSplitSomeone_17 Q n σ x1 x3 (x4 + 1))) ∧ ((¬ r79 = 0) → (Q 1 σ))))))))))
def w_X8_wouldSplitSomeone (σ : gk_C) (a0 : Int32) (a1 : Int32) (Q : Int32 → gk_C → Prop) : Prop := (w_X1_hadWith σ (1 <<< (a1 &&& 31)) (fun r10 => ∃ n17, wL_X8_wouldSplitSomeone_17 Q n17 σ a0 r10 0))
abbrev rmX8_wouldSplitSomeone : Room := { frames := 3, cells := 0, slots := 0, locals := 68 }
set_option maxHeartbeats 4000000 in
set_option maxRecDepth 100000 in
theorem tL_X8_wouldSplitSomeone_17 {p : Program} {l : Launch} {e : Env} {s : State} {m : MethodId} {args : Array Value} {below : List Frame} {meth : Method} {c : Code} {D : va_G} {cI cZ cG cL : ClassId} {ad : Nat → Nat} (C0 : gk_F p s m args meth c cX8_wouldSplitSomeone 6 (some .boolean) RX8) (hK : gk_K D cI cZ cG cL s) {Q : Int32 → gk_C → Prop} : ∀ (n : Nat) (σ : gk_C) (x1 : Int32) (x3 : Int32) (x4 : Int32), wL_X8_wouldSplitSomeone_17 Q n σ x1 x3 x4 → ∀ (H : Heap) (locs : List Loc), gk_W D cI ad σ H → va_S (gk_A ad s.heap.size) s.heap H locs → ∀ (ls : Array Slot), lv_has ls 6 [(0, .ref (ad 0)), (1, .int x1), (3, .int x3), (4, .int x4)] → W p l e rmX8_wouldSplitSomeone s m args below meth c H locs 0 0 (MQ below (va_Qi (fun r u => Q r u) (gk_B D cI ad) (gk_A ad s.heap.size)) args s 0 0 (gk_A ad s.heap.size)) (F0 m 17 ls []) := by
  obtain ⟨hx, hb, hml, hown, hts, hr, hlocks⟩ := id C0
  intro n
  induction n with
  | zero => exact fun _ _ _ _ hw => False.elim hw
  | succ n ih =>
    intro σ x1 x3 x4 hw H locs hW hS ls hl
    refine lv_iload hx hb dX8_wouldSplitSomeone_17 (lv_at hl 3 rfl) ?_
    refine lv_aload_n hx hb dX8_wouldSplitSomeone_19 rfl (lv_at hl 0 rfl) ?_
    refine gk_get hx hb hts iwX8 hown hK.1 (gk_o0 hW) rfl 0 (by decide) (hts _ fl_X8_10) (fun _ h9 => h9) rfl dX8_wouldSplitSomeone_20 ?_
    refine gk_getN hx hb hts iwX4 hown hK.1 (gk_o1 hW) rfl 0 (by decide) (gk_nw hK nf_X8_45) (fun _ h9 => h9) rfl dX8_wouldSplitSomeone_23 ?_
    refine gk_getN hx hb hts iwX6 hown hK.1 (gk_o2 hW) rfl 0 (by decide) (gk_nw hK nf_X8_49) (fun _ h9 => h9) rfl dX8_wouldSplitSomeone_26 ?_
    refine lv_icmp_ge (tgt := 93) hx hb dX8_wouldSplitSomeone_29 (by decide) (fun c29 => ?_) (fun c29 => ?_)
    · have hw := hw.1 c29
      refine lv_iconst (v := 0) hx hb dX8_wouldSplitSomeone_93 (by decide) ?_
      exact gk_retz C0 (by decide) hw hW hS dX8_wouldSplitSomeone_94
    · have hw := hw.2 c29
      refine lv_aload_n hx hb dX8_wouldSplitSomeone_32 rfl (lv_at hl 0 rfl) ?_
      refine gk_get hx hb hts iwX8 hown hK.1 (gk_o0 hW) rfl 0 (by decide) (hts _ fl_X8_10) (fun _ h9 => h9) rfl dX8_wouldSplitSomeone_33 ?_
      refine gk_getN hx hb hts iwX4 hown hK.1 (gk_o1 hW) rfl 1 (by decide) (gk_nw hK nf_X8_62) (fun _ h9 => h9) rfl dX8_wouldSplitSomeone_36 ?_
      refine lv_aload_n hx hb dX8_wouldSplitSomeone_39 rfl (lv_at hl 0 rfl) ?_
      refine gk_get hx hb hts iwX8 hown hK.1 (gk_o0 hW) rfl 0 (by decide) (hts _ fl_X8_10) (fun _ h9 => h9) rfl dX8_wouldSplitSomeone_40 ?_
      refine gk_getN hx hb hts iwX4 hown hK.1 (gk_o1 hW) rfl 0 (by decide) (gk_nw hK nf_X8_45) (fun _ h9 => h9) rfl dX8_wouldSplitSomeone_43 ?_
      refine gk_getN hx hb hts iwX6 hown hK.1 (gk_o2 hW) rfl 3 (by decide) (gk_nw hK nf_X8_95) (fun _ h9 => h9) rfl dX8_wouldSplitSomeone_46 ?_
      refine lv_iload hx hb dX8_wouldSplitSomeone_49 (lv_at hl 3 rfl) ?_
      refine gk_callRi ⟨hx, hb, hml, hown, hts⟩ (c_X2_at l D cI cZ cG cL ad (σ := σ) (r := 2) (i := x4) (by decide)) (cwV 1 hts (gk_gV ml_X8_98 im_X2_at se_X2_at in_X2 co_X2_at) rfl rfl rfl (by decide +kernel) ⟨Nat.le_of_ble_eq_true rfl, Nat.le_of_ble_eq_true rfl⟩) (gk_recv hK.1 (gk_or hW (r := 2) (by decide)) rfl) hW hK hS rfl hl.1 (rest := [.ref (ad 3)]) rfl (lv_room (Nat.le_of_ble_eq_true rfl)) dX8_wouldSplitSomeone_51 ⟨Nat.zero_le _, Nat.zero_le _⟩ (fun r51 H locs hq hW _ hS => ?_)
      obtain rfl := hq
      refine gk_callRi ⟨hx, hb, hml, hown, hts⟩ (c_X1_hadWith l D cI cZ cG cL ad hw) (cwV 1 hts (gk_gV ml_X8_101 im_X1_hadWith se_X1_hadWith in_X1 co_X1_hadWith) rfl rfl rfl (by decide +kernel) ⟨Nat.le_of_ble_eq_true rfl, Nat.le_of_ble_eq_true rfl⟩) (gk_recv hK.1 (gk_o3 hW) rfl) hW hK hS rfl hl.1 (rest := []) rfl (lv_room (Nat.le_of_ble_eq_true rfl)) dX8_wouldSplitSomeone_54 ⟨Nat.zero_le _, Nat.zero_le _⟩ (fun r54 H locs hw hW _ hS => ?_)
      refine lv_istore (lv' := [(5, .int r54), (0, .ref (ad 0)), (1, .int x1), (3, .int x3), (4, .int x4)]) hx hb dX8_wouldSplitSomeone_57 hl (by decide) rfl (fun ls hl => ?_)
      refine lv_iload hx hb dX8_wouldSplitSomeone_59 (lv_at hl 0 rfl) ?_
      refine lv_iload_n hx hb dX8_wouldSplitSomeone_61 rfl (lv_at hl 2 rfl) ?_
      refine gk_callSi ⟨hx, hb, hml, hown, hts⟩ (c_X8_isIn l hw) (va_cwS 2 hts (gk_gS ml_X8_110 st_X8_isIn in_X8 co_X8_isIn) rfl rfl rfl (by decide +kernel) ⟨Nat.le_of_ble_eq_true rfl, Nat.le_of_ble_eq_true rfl⟩) hS rfl hl.1 (rest := []) rfl (lv_room (Nat.le_of_ble_eq_true rfl)) dX8_wouldSplitSomeone_62 ⟨Nat.zero_le _, Nat.zero_le _⟩ (fun r62 H locs hw _ hk hS => ?_)
      have hW := hW.kept (fun k hk9 => hk _ (hW.lt hk9))
      refine lv_if_eq (tgt := 87) hx hb dX8_wouldSplitSomeone_65 (by decide) (fun c65 => ?_) (fun c65 => ?_)
      · have hw := hw.1 c65
        refine lv_iinc (v := (x4 + 1)) (lv' := [(4, .int (x4 + 1)), (5, .int r54), (0, .ref (ad 0)), (1, .int x1), (3, .int x3)]) hx hb dX8_wouldSplitSomeone_87 hl (k := 4) rfl rfl (by decide) rfl (fun ls hl => ?_)
        refine lv_goto (tgt := 17) hx hb dX8_wouldSplitSomeone_90 (by decide) ?_
        exact ih σ x1 x3 (x4 + 1) hw _ _ hW hS _ (lv_sub hl [2, 3, 4, 0] rfl)
      · have hw := hw.2 c65
        refine lv_aload_n hx hb dX8_wouldSplitSomeone_68 rfl (lv_at hl 1 rfl) ?_
        refine gk_get hx hb hts iwX8 hown hK.1 (gk_o0 hW) rfl 0 (by decide) (hts _ fl_X8_10) (fun _ h9 => h9) rfl dX8_wouldSplitSomeone_69 ?_
        refine gk_getN hx hb hts iwX4 hown hK.1 (gk_o1 hW) rfl 1 (by decide) (gk_nw hK nf_X8_62) (fun _ h9 => h9) rfl dX8_wouldSplitSomeone_72 ?_
        refine lv_iload hx hb dX8_wouldSplitSomeone_75 (lv_at hl 0 rfl) ?_
        refine lv_iload_n hx hb dX8_wouldSplitSomeone_77 rfl (lv_at hl 3 rfl) ?_
        refine lv_ior hx hb dX8_wouldSplitSomeone_78 ?_
        refine gk_callRi ⟨hx, hb, hml, hown, hts⟩ (c_X1_isSplit l D cI cZ cG cL ad hw) (cwV 1 hts (gk_gV ml_X8_104 im_X1_isSplit se_X1_isSplit in_X1 co_X1_isSplit) rfl rfl rfl (by decide +kernel) ⟨Nat.le_of_ble_eq_true rfl, Nat.le_of_ble_eq_true rfl⟩) (gk_recv hK.1 (gk_o3 hW) rfl) hW hK hS rfl hl.1 (rest := []) rfl (lv_room (Nat.le_of_ble_eq_true rfl)) dX8_wouldSplitSomeone_79 ⟨Nat.zero_le _, Nat.zero_le _⟩ (fun r79 H locs hw hW _ hS => ?_)
        refine lv_if_eq (tgt := 87) hx hb dX8_wouldSplitSomeone_82 (by decide) (fun c82 => ?_) (fun c82 => ?_)
        · have hw := hw.1 c82
          refine lv_iinc (v := (x4 + 1)) (lv' := [(4, .int (x4 + 1)), (5, .int r54), (0, .ref (ad 0)), (1, .int x1), (3, .int x3)]) hx hb dX8_wouldSplitSomeone_87 hl (k := 4) rfl rfl (by decide) rfl (fun ls hl => ?_)
          refine lv_goto (tgt := 17) hx hb dX8_wouldSplitSomeone_90 (by decide) ?_
          exact ih σ x1 x3 (x4 + 1) hw _ _ hW hS _ (lv_sub hl [2, 3, 4, 0] rfl)
        · have hw := hw.2 c82
          refine lv_iconst (v := 1) hx hb dX8_wouldSplitSomeone_85 (by decide) ?_
          exact gk_retz C0 (by decide) hw hW hS dX8_wouldSplitSomeone_86
set_option maxHeartbeats 4000000 in
set_option maxRecDepth 100000 in
theorem c_X8_wouldSplitSomeone (l : Launch) (D : va_G) (cI cZ cG cL : ClassId) (ad : Nat → Nat) {σ : gk_C} {a0 : Int32} {a1 : Int32} {Q : Int32 → gk_C → Prop} {sz : Nat} (hw : w_X8_wouldSplitSomeone σ a0 a1 Q) : Met l yX8_wouldSplitSomeone wsX8_wouldSplitSomeone rmX8_wouldSplitSomeone (gk_Pc D cI cZ cG cL ad [.ref (ad 0), .int a0, .int a1] sz σ) (va_Qi (fun r u => Q r u) (gk_B D cI ad) (gk_A ad sz)) 0 0 (gk_A ad sz) := by
  refine Met.ofW (cc := cX8_wouldSplitSomeone) (maxL := 6) (ret := (some .boolean)) (by decide) rfl ?_
  intro p e s m args below meth c s₁ B hml0 hv0
  obtain ⟨rfl, hsz, hW, hK⟩ := hv0
  subst hsz
  have C0 : gk_F p s m ([.ref (ad 0), .int a0, .int a1] : List Value).toArray meth c cX8_wouldSplitSomeone 6 (some .boolean) RX8 := ⟨B.exec, B.bytes, hml0, findClass_of_methodNamed B.named, fun w hw => atoms_spec (ws := wsX8_wouldSplitSomeone) B.pre w (List.mem_cons_of_mem _ hw), B.returns, B.notSynchronized⟩
  obtain ⟨hx, hb, hml, hown, hts, hr, hlocks⟩ := id C0
  have hS : va_S (gk_A ad s.heap.size) s.heap s.heap [] := va_S.rf
  have hl := lv_entry ([.ref (ad 0), .int a0, .int a1]) (n := 6) (Nat.le_of_ble_eq_true rfl)
  rw [lg_entry_eq]
  generalize (lg_sl ([.ref (ad 0), .int a0, .int a1]) ++ List.replicate (6 - (lg_sl ([.ref (ad 0), .int a0, .int a1])).length) Slot.unset).toArray = ls at hl ⊢
  have hl : lv_has ls 6 [(0, .ref (ad 0)), (1, .int a0), (2, .int a1)] := hl
  show W p l e rmX8_wouldSplitSomeone s m _ below meth c s.heap [] 0 0 _ _
  refine lv_aload_n hx hb dX8_wouldSplitSomeone_0 rfl (lv_at hl 0 rfl) ?_
  refine gk_get hx hb hts iwX8 hown hK.1 (gk_o0 hW) rfl 0 (by decide) (hts _ fl_X8_10) (fun _ h9 => h9) rfl dX8_wouldSplitSomeone_1 ?_
  refine gk_getN hx hb hts iwX4 hown hK.1 (gk_o1 hW) rfl 1 (by decide) (gk_nw hK nf_X8_62) (fun _ h9 => h9) rfl dX8_wouldSplitSomeone_4 ?_
  refine lv_iconst (v := 1) hx hb dX8_wouldSplitSomeone_7 (by decide) ?_
  refine lv_iload_n hx hb dX8_wouldSplitSomeone_8 rfl (lv_at hl 2 rfl) ?_
  refine lv_ishl hx hb dX8_wouldSplitSomeone_9 ?_
  refine gk_callRi ⟨hx, hb, hml, hown, hts⟩ (c_X1_hadWith l D cI cZ cG cL ad hw) (cwV 1 hts (gk_gV ml_X8_101 im_X1_hadWith se_X1_hadWith in_X1 co_X1_hadWith) rfl rfl rfl (by decide +kernel) ⟨Nat.le_of_ble_eq_true rfl, Nat.le_of_ble_eq_true rfl⟩) (gk_recv hK.1 (gk_o3 hW) rfl) hW hK hS rfl hl.1 (rest := []) rfl (lv_room (Nat.le_of_ble_eq_true rfl)) dX8_wouldSplitSomeone_10 ⟨Nat.zero_le _, Nat.zero_le _⟩ (fun r10 H locs hw hW _ hS => ?_)
  refine lv_istore_n (lv' := [(3, .int r10), (0, .ref (ad 0)), (1, .int a0), (2, .int a1)]) hx hb dX8_wouldSplitSomeone_13 rfl hl (by decide) rfl (fun ls hl => ?_)
  refine lv_iconst (v := 0) hx hb dX8_wouldSplitSomeone_14 (by decide) ?_
  refine lv_istore (lv' := [(4, .int 0), (3, .int r10), (0, .ref (ad 0)), (1, .int a0), (2, .int a1)]) hx hb dX8_wouldSplitSomeone_15 hl (by decide) rfl (fun ls hl => ?_)
  obtain ⟨n17, hw⟩ := hw
  refine tL_X8_wouldSplitSomeone_17 C0 hK  n17 σ a0 r10 0 hw _ _ hW hS _ (lv_sub hl [2, 3, 1, 0] rfl)
def w_X8_wouldBeAllowed (σ : gk_C) (a0 : Int32) (a1 : Int32) (a2 : Int32) (a3 : Int32) (Q : Int32 → gk_C → Prop) : Prop := (w_X1_hadWith σ a1 (fun r15 => w_X1_isSplit σ r15 (fun r18 => ((r18 = 0) → (w_X7_giveSet 1 σ a0 a1 (fun σ32 => w_X7_ruled 1 σ32 a0 a2 a3 (fun r43 => ((r43 = 0) → (w_X7_weighGrants 1 σ32 (fun σ69 => w_X7_grantFor 1 σ69 a0 a2 a3 (fun r80 => ((r80 < 0) → (Q 0 σ69)) ∧ ((¬ r80 < 0) → (Q 1 σ69)))))) ∧ ((¬ r43 = 0) → (((¬ r43 = 1) → (Q 0 σ32)) ∧ ((r43 = 1) → (Q 1 σ32)))))))) ∧ ((¬ r18 = 0) → (Q 0 σ)))))
abbrev rmX8_wouldBeAllowed : Room := { frames := 5, cells := 0, slots := 0, locals := 119 }
set_option maxHeartbeats 4000000 in
set_option maxRecDepth 100000 in
theorem c_X8_wouldBeAllowed (l : Launch) (D : va_G) (cI cZ cG cL : ClassId) (ad : Nat → Nat) {σ : gk_C} {a0 : Int32} {a1 : Int32} {a2 : Int32} {a3 : Int32} {Q : Int32 → gk_C → Prop} {sz : Nat} (hw : w_X8_wouldBeAllowed σ a0 a1 a2 a3 Q) : Met l yX8_wouldBeAllowed wsX8_wouldBeAllowed rmX8_wouldBeAllowed (gk_Pc D cI cZ cG cL ad [.ref (ad 0), .int a0, .int a1, .int a2, .int a3] sz σ) (va_Qi (fun r u => Q r u) (gk_B D cI ad) (gk_A ad sz)) 0 0 (gk_A ad sz) := by
  refine Met.ofW (cc := cX8_wouldBeAllowed) (maxL := 6) (ret := (some .boolean)) (by decide) rfl ?_
  intro p e s m args below meth c s₁ B hml0 hv0
  obtain ⟨rfl, hsz, hW, hK⟩ := hv0
  subst hsz
  have C0 : gk_F p s m ([.ref (ad 0), .int a0, .int a1, .int a2, .int a3] : List Value).toArray meth c cX8_wouldBeAllowed 6 (some .boolean) RX8 := ⟨B.exec, B.bytes, hml0, findClass_of_methodNamed B.named, fun w hw => atoms_spec (ws := wsX8_wouldBeAllowed) B.pre w (List.mem_cons_of_mem _ hw), B.returns, B.notSynchronized⟩
  obtain ⟨hx, hb, hml, hown, hts, hr, hlocks⟩ := id C0
  have hS : va_S (gk_A ad s.heap.size) s.heap s.heap [] := va_S.rf
  have hl := lv_entry ([.ref (ad 0), .int a0, .int a1, .int a2, .int a3]) (n := 6) (Nat.le_of_ble_eq_true rfl)
  rw [lg_entry_eq]
  generalize (lg_sl ([.ref (ad 0), .int a0, .int a1, .int a2, .int a3]) ++ List.replicate (6 - (lg_sl ([.ref (ad 0), .int a0, .int a1, .int a2, .int a3])).length) Slot.unset).toArray = ls at hl ⊢
  have hl : lv_has ls 6 [(0, .ref (ad 0)), (1, .int a0), (2, .int a1), (3, .int a2), (4, .int a3)] := hl
  show W p l e rmX8_wouldBeAllowed s m _ below meth c s.heap [] 0 0 _ _
  refine lv_aload_n hx hb dX8_wouldBeAllowed_0 rfl (lv_at hl 0 rfl) ?_
  refine gk_get hx hb hts iwX8 hown hK.1 (gk_o0 hW) rfl 0 (by decide) (hts _ fl_X8_10) (fun _ h9 => h9) rfl dX8_wouldBeAllowed_1 ?_
  refine gk_getN hx hb hts iwX4 hown hK.1 (gk_o1 hW) rfl 1 (by decide) (gk_nw hK nf_X8_62) (fun _ h9 => h9) rfl dX8_wouldBeAllowed_4 ?_
  refine lv_aload_n hx hb dX8_wouldBeAllowed_7 rfl (lv_at hl 0 rfl) ?_
  refine gk_get hx hb hts iwX8 hown hK.1 (gk_o0 hW) rfl 0 (by decide) (hts _ fl_X8_10) (fun _ h9 => h9) rfl dX8_wouldBeAllowed_8 ?_
  refine gk_getN hx hb hts iwX4 hown hK.1 (gk_o1 hW) rfl 1 (by decide) (gk_nw hK nf_X8_62) (fun _ h9 => h9) rfl dX8_wouldBeAllowed_11 ?_
  refine lv_iload_n hx hb dX8_wouldBeAllowed_14 rfl (lv_at hl 2 rfl) ?_
  refine gk_callRi ⟨hx, hb, hml, hown, hts⟩ (c_X1_hadWith l D cI cZ cG cL ad hw) (cwV 1 hts (gk_gV ml_X8_101 im_X1_hadWith se_X1_hadWith in_X1 co_X1_hadWith) rfl rfl rfl (by decide +kernel) ⟨Nat.le_of_ble_eq_true rfl, Nat.le_of_ble_eq_true rfl⟩) (gk_recv hK.1 (gk_o3 hW) rfl) hW hK hS rfl hl.1 (rest := [.ref (ad 3)]) rfl (lv_room (Nat.le_of_ble_eq_true rfl)) dX8_wouldBeAllowed_15 ⟨Nat.zero_le _, Nat.zero_le _⟩ (fun r15 H locs hw hW _ hS => ?_)
  refine gk_callRi ⟨hx, hb, hml, hown, hts⟩ (c_X1_isSplit l D cI cZ cG cL ad hw) (cwV 1 hts (gk_gV ml_X8_104 im_X1_isSplit se_X1_isSplit in_X1 co_X1_isSplit) rfl rfl rfl (by decide +kernel) ⟨Nat.le_of_ble_eq_true rfl, Nat.le_of_ble_eq_true rfl⟩) (gk_recv hK.1 (gk_o3 hW) rfl) hW hK hS rfl hl.1 (rest := []) rfl (lv_room (Nat.le_of_ble_eq_true rfl)) dX8_wouldBeAllowed_18 ⟨Nat.zero_le _, Nat.zero_le _⟩ (fun r18 H locs hw hW _ hS => ?_)
  refine lv_if_eq (tgt := 26) hx hb dX8_wouldBeAllowed_21 (by decide) (fun c21 => ?_) (fun c21 => ?_)
  · have hw := hw.1 c21
    refine lv_aload_n hx hb dX8_wouldBeAllowed_26 rfl (lv_at hl 0 rfl) ?_
    refine gk_get hx hb hts iwX8 hown hK.1 (gk_o0 hW) rfl 2 (by decide) (hts _ fl_X8_25) (fun _ h9 => h9) rfl dX8_wouldBeAllowed_27 ?_
    refine lv_iload_n hx hb dX8_wouldBeAllowed_30 rfl (lv_at hl 1 rfl) ?_
    refine lv_iload_n hx hb dX8_wouldBeAllowed_31 rfl (lv_at hl 2 rfl) ?_
    refine gk_callVv ⟨hx, hb, hml, hown, hts⟩ (c_X7_giveSet l D cI cZ cG cL ad (by decide) hw) (cwV 2 hts (gk_gV ml_X8_261 im_X7_giveSet se_X7_giveSet in_X7 co_X7_giveSet) rfl rfl rfl (by decide +kernel) ⟨Nat.le_of_ble_eq_true rfl, Nat.le_of_ble_eq_true rfl⟩) (gk_recv hK.1 (gk_ov hW (v := 1) (by decide)) rfl) hW hK hS rfl hl.1 (rest := []) rfl (lv_room (Nat.le_of_ble_eq_true rfl)) dX8_wouldBeAllowed_32 ⟨Nat.zero_le _, Nat.zero_le _⟩ (fun σ32 H locs hw hW _ hS => ?_)
    refine lv_aload_n hx hb dX8_wouldBeAllowed_35 rfl (lv_at hl 0 rfl) ?_
    refine gk_get hx hb hts iwX8 hown hK.1 (gk_o0 hW) rfl 2 (by decide) (hts _ fl_X8_25) (fun _ h9 => h9) rfl dX8_wouldBeAllowed_36 ?_
    refine lv_iload_n hx hb dX8_wouldBeAllowed_39 rfl (lv_at hl 1 rfl) ?_
    refine lv_iload_n hx hb dX8_wouldBeAllowed_40 rfl (lv_at hl 3 rfl) ?_
    refine lv_iload hx hb dX8_wouldBeAllowed_41 (lv_at hl 4 rfl) ?_
    refine gk_callRi ⟨hx, hb, hml, hown, hts⟩ (c_X7_ruled l D cI cZ cG cL ad (by decide) hw) (cwV 3 hts (gk_gV ml_X8_287 im_X7_ruled se_X7_ruled in_X7 co_X7_ruled) rfl rfl rfl (by decide +kernel) ⟨Nat.le_of_ble_eq_true rfl, Nat.le_of_ble_eq_true rfl⟩) (gk_recv hK.1 (gk_ov hW (v := 1) (by decide)) rfl) hW hK hS rfl hl.1 (rest := []) rfl (lv_room (Nat.le_of_ble_eq_true rfl)) dX8_wouldBeAllowed_43 ⟨Nat.zero_le _, Nat.zero_le _⟩ (fun r43 H locs hw hW _ hS => ?_)
    refine lv_istore (lv' := [(5, .int r43), (0, .ref (ad 0)), (1, .int a0), (2, .int a1), (3, .int a2), (4, .int a3)]) hx hb dX8_wouldBeAllowed_46 hl (by decide) rfl (fun ls hl => ?_)
    refine lv_iload hx hb dX8_wouldBeAllowed_48 (lv_at hl 0 rfl) ?_
    refine lv_if_eq (tgt := 65) hx hb dX8_wouldBeAllowed_50 (by decide) (fun c50 => ?_) (fun c50 => ?_)
    · have hw := hw.1 c50
      refine lv_aload_n hx hb dX8_wouldBeAllowed_65 rfl (lv_at hl 1 rfl) ?_
      refine gk_get hx hb hts iwX8 hown hK.1 (gk_o0 hW) rfl 2 (by decide) (hts _ fl_X8_25) (fun _ h9 => h9) rfl dX8_wouldBeAllowed_66 ?_
      refine gk_callVv ⟨hx, hb, hml, hown, hts⟩ (c_X7_weighGrants l D cI cZ cG cL ad (by decide) hw) (cwV 0 hts (gk_gV ml_X8_264 im_X7_weighGrants se_X7_weighGrants in_X7 co_X7_weighGrants) rfl rfl rfl (by decide +kernel) ⟨Nat.le_of_ble_eq_true rfl, Nat.le_of_ble_eq_true rfl⟩) (gk_recv hK.1 (gk_ov hW (v := 1) (by decide)) rfl) hW hK hS rfl hl.1 (rest := []) rfl (lv_room (Nat.le_of_ble_eq_true rfl)) dX8_wouldBeAllowed_69 ⟨Nat.zero_le _, Nat.zero_le _⟩ (fun σ69 H locs hw hW _ hS => ?_)
      refine lv_aload_n hx hb dX8_wouldBeAllowed_72 rfl (lv_at hl 1 rfl) ?_
      refine gk_get hx hb hts iwX8 hown hK.1 (gk_o0 hW) rfl 2 (by decide) (hts _ fl_X8_25) (fun _ h9 => h9) rfl dX8_wouldBeAllowed_73 ?_
      refine lv_iload_n hx hb dX8_wouldBeAllowed_76 rfl (lv_at hl 2 rfl) ?_
      refine lv_iload_n hx hb dX8_wouldBeAllowed_77 rfl (lv_at hl 4 rfl) ?_
      refine lv_iload hx hb dX8_wouldBeAllowed_78 (lv_at hl 5 rfl) ?_
      refine gk_callRi ⟨hx, hb, hml, hown, hts⟩ (c_X7_grantFor l D cI cZ cG cL ad (by decide) hw) (cwV 3 hts (gk_gV ml_X8_290 im_X7_grantFor se_X7_grantFor in_X7 co_X7_grantFor) rfl rfl rfl (by decide +kernel) ⟨Nat.le_of_ble_eq_true rfl, Nat.le_of_ble_eq_true rfl⟩) (gk_recv hK.1 (gk_ov hW (v := 1) (by decide)) rfl) hW hK hS rfl hl.1 (rest := []) rfl (lv_room (Nat.le_of_ble_eq_true rfl)) dX8_wouldBeAllowed_80 ⟨Nat.zero_le _, Nat.zero_le _⟩ (fun r80 H locs hw hW _ hS => ?_)
      refine lv_if_lt (tgt := 90) hx hb dX8_wouldBeAllowed_83 (by decide) (fun c83 => ?_) (fun c83 => ?_)
      · have hw := hw.1 c83
        refine lv_iconst (v := 0) hx hb dX8_wouldBeAllowed_90 (by decide) ?_
        exact gk_retz C0 (by decide) hw hW hS dX8_wouldBeAllowed_91
      · have hw := hw.2 c83
        refine lv_iconst (v := 1) hx hb dX8_wouldBeAllowed_86 (by decide) ?_
        refine lv_goto (tgt := 91) hx hb dX8_wouldBeAllowed_87 (by decide) ?_
        exact gk_retz C0 (by decide) hw hW hS dX8_wouldBeAllowed_91
    · have hw := hw.2 c50
      refine lv_iload hx hb dX8_wouldBeAllowed_53 (lv_at hl 0 rfl) ?_
      refine lv_iconst (v := 1) hx hb dX8_wouldBeAllowed_55 (by decide) ?_
      refine lv_icmp_ne (tgt := 63) hx hb dX8_wouldBeAllowed_56 (by decide) (fun c56 => ?_) (fun c56 => ?_)
      · have hw := hw.1 c56
        refine lv_iconst (v := 0) hx hb dX8_wouldBeAllowed_63 (by decide) ?_
        exact gk_retz C0 (by decide) hw hW hS dX8_wouldBeAllowed_64
      · have hw := hw.2 c56
        refine lv_iconst (v := 1) hx hb dX8_wouldBeAllowed_59 (by decide) ?_
        refine lv_goto (tgt := 64) hx hb dX8_wouldBeAllowed_60 (by decide) ?_
        exact gk_retz C0 (by decide) hw hW hS dX8_wouldBeAllowed_64
  · have hw := hw.2 c21
    refine lv_iconst (v := 0) hx hb dX8_wouldBeAllowed_24 (by decide) ?_
    exact gk_retz C0 (by decide) hw hW hS dX8_wouldBeAllowed_25
def wJ_X8_checkAsked_27 (σ : gk_C) (k28 : Int32 → Prop)  : Prop := (k28 0)
def wJ_X8_checkAsked_28 (σ : gk_C) (Q : Prop) (t0 : Int32) : Prop := ((¬ t0 = 0) ∧ Q)
def w_X8_checkAsked (σ : gk_C) (a0 : Int32) (a1 : Int32) (a2 : Int32) (Q : Prop) : Prop := (w_X8_isUser σ a0 (fun r2 => ((r2 = 0) → (wJ_X8_checkAsked_27 σ (fun t0 => (wJ_X8_checkAsked_28 σ Q t0)) )) ∧ ((¬ r2 = 0) → (w_X8_isAction a1 (fun r9 => ((r9 = 0) → (wJ_X8_checkAsked_27 σ (fun t0 => (wJ_X8_checkAsked_28 σ Q t0)) )) ∧ ((¬ r9 = 0) → (w_X8_isResource σ a2 (fun r17 => ((r17 = 0) → (wJ_X8_checkAsked_27 σ (fun t0 => (wJ_X8_checkAsked_28 σ Q t0)) )) ∧ ((¬ r17 = 0) → (wJ_X8_checkAsked_28 σ Q 1))))))))))
abbrev rmX8_checkAsked : Room := { frames := 1, cells := 0, slots := 0, locals := 21 }
set_option maxHeartbeats 4000000 in
set_option maxRecDepth 100000 in
theorem tJ_X8_checkAsked_27 {p : Program} {l : Launch} {e : Env} {s : State} {m : MethodId} {args : Array Value} {below : List Frame} {meth : Method} {c : Code} {D : va_G} {cI cZ cG cL : ClassId} {ad : Nat → Nat} (C0 : gk_F p s m args meth c cX8_checkAsked 4 none RX8) (hK : gk_K D cI cZ cG cL s) {σ : gk_C} {Q : Prop} {k28 : Int32 → Prop} (hk28 : ∀ (t0 : Int32), k28 t0 → ∀ (H : Heap) (locs : List Loc), gk_W D cI ad σ H → va_S (gk_A ad s.heap.size) s.heap H locs → ∀ (ls : Array Slot), lv_has ls 4 [] → W p l e rmX8_checkAsked s m args below meth c H locs 0 0 (MQ below (va_Qv (fun u => u = σ ∧ Q) (gk_B D cI ad) (gk_A ad s.heap.size)) args s 0 0 (gk_A ad s.heap.size)) (F0 m 28 ls [.int t0])) : wJ_X8_checkAsked_27 σ k28  → ∀ (H : Heap) (locs : List Loc), gk_W D cI ad σ H → va_S (gk_A ad s.heap.size) s.heap H locs → ∀ (ls : Array Slot), lv_has ls 4 [] → W p l e rmX8_checkAsked s m args below meth c H locs 0 0 (MQ below (va_Qv (fun u => u = σ ∧ Q) (gk_B D cI ad) (gk_A ad s.heap.size)) args s 0 0 (gk_A ad s.heap.size)) (F0 m 27 ls []) := by
  obtain ⟨hx, hb, hml, hown, hts, hr, hlocks⟩ := id C0
  intro  hw H locs hW hS ls hl
  refine lv_iconst (v := 0) hx hb dX8_checkAsked_27 (by decide) ?_
  exact hk28 0 hw _ _ hW hS _ hl
set_option maxHeartbeats 4000000 in
set_option maxRecDepth 100000 in
theorem tJ_X8_checkAsked_28 {p : Program} {l : Launch} {e : Env} {s : State} {m : MethodId} {args : Array Value} {below : List Frame} {meth : Method} {c : Code} {D : va_G} {cI cZ cG cL : ClassId} {ad : Nat → Nat} (C0 : gk_F p s m args meth c cX8_checkAsked 4 none RX8) (hK : gk_K D cI cZ cG cL s) {σ : gk_C} {Q : Prop} : ∀ (t0 : Int32), wJ_X8_checkAsked_28 σ Q t0 → ∀ (H : Heap) (locs : List Loc), gk_W D cI ad σ H → va_S (gk_A ad s.heap.size) s.heap H locs → ∀ (ls : Array Slot), lv_has ls 4 [] → W p l e rmX8_checkAsked s m args below meth c H locs 0 0 (MQ below (va_Qv (fun u => u = σ ∧ Q) (gk_B D cI ad) (gk_A ad s.heap.size)) args s 0 0 (gk_A ad s.heap.size)) (F0 m 28 ls [.int t0]) := by
  obtain ⟨hx, hb, hml, hown, hts, hr, hlocks⟩ := id C0
  intro t0 hw H locs hW hS ls hl
  obtain ⟨hc, hw⟩ := hw
  refine gk_callSv ⟨hx, hb, hml, hown, hts⟩ (c0_X8_checkThere l hc) (va_cwS 1 hts (gk_gS ml_X8_76 st_X8_checkThere in_X8 co_X8_checkThere) rfl rfl rfl (by decide +kernel) ⟨Nat.le_of_ble_eq_true rfl, Nat.le_of_ble_eq_true rfl⟩) hS rfl hl.1 (rest := []) rfl (lv_room (Nat.le_of_ble_eq_true rfl)) dX8_checkAsked_28 ⟨Nat.zero_le _, Nat.zero_le _⟩ (fun H locs _ hk hS => ?_)
  have hW := hW.kept (fun k hk9 => hk _ (hW.lt hk9))
  exact gk_retv C0 ⟨rfl, hw⟩ hW hS dX8_checkAsked_31
set_option maxHeartbeats 4000000 in
set_option maxRecDepth 100000 in
theorem c_X8_checkAsked (l : Launch) (D : va_G) (cI cZ cG cL : ClassId) (ad : Nat → Nat) {σ : gk_C} {a0 : Int32} {a1 : Int32} {a2 : Int32} {Q : Prop} {sz : Nat} (hw : w_X8_checkAsked σ a0 a1 a2 Q) : Met l yX8_checkAsked wsX8_checkAsked rmX8_checkAsked (gk_Pc D cI cZ cG cL ad [.ref (ad 0), .int a0, .int a1, .int a2] sz σ) (va_Qv (fun u => u = σ ∧ Q) (gk_B D cI ad) (gk_A ad sz)) 0 0 (gk_A ad sz) := by
  refine Met.ofW (cc := cX8_checkAsked) (maxL := 4) (ret := none) (by decide) rfl ?_
  intro p e s m args below meth c s₁ B hml0 hv0
  obtain ⟨rfl, hsz, hW, hK⟩ := hv0
  subst hsz
  have C0 : gk_F p s m ([.ref (ad 0), .int a0, .int a1, .int a2] : List Value).toArray meth c cX8_checkAsked 4 none RX8 := ⟨B.exec, B.bytes, hml0, findClass_of_methodNamed B.named, fun w hw => atoms_spec (ws := wsX8_checkAsked) B.pre w (List.mem_cons_of_mem _ hw), B.returns, B.notSynchronized⟩
  obtain ⟨hx, hb, hml, hown, hts, hr, hlocks⟩ := id C0
  have hS : va_S (gk_A ad s.heap.size) s.heap s.heap [] := va_S.rf
  have hl := lv_entry ([.ref (ad 0), .int a0, .int a1, .int a2]) (n := 4) (Nat.le_of_ble_eq_true rfl)
  rw [lg_entry_eq]
  generalize (lg_sl ([.ref (ad 0), .int a0, .int a1, .int a2]) ++ List.replicate (4 - (lg_sl ([.ref (ad 0), .int a0, .int a1, .int a2])).length) Slot.unset).toArray = ls at hl ⊢
  have hl : lv_has ls 4 [(0, .ref (ad 0)), (1, .int a0), (2, .int a1), (3, .int a2)] := hl
  show W p l e rmX8_checkAsked s m _ below meth c s.heap [] 0 0 _ _
  refine lv_aload_n hx hb dX8_checkAsked_0 rfl (lv_at hl 0 rfl) ?_
  refine lv_iload_n hx hb dX8_checkAsked_1 rfl (lv_at hl 1 rfl) ?_
  refine gk_callRi ⟨hx, hb, hml, hown, hts⟩ (c_X8_isUser l D cI cZ cG cL ad hw) (cwV 1 hts (gk_gV ml_X8_89 im_X8_isUser se_X8_isUser in_X8 co_X8_isUser) rfl rfl rfl (by decide +kernel) ⟨Nat.le_of_ble_eq_true rfl, Nat.le_of_ble_eq_true rfl⟩) (gk_recv hK.1 (gk_o0 hW) rfl) hW hK hS rfl hl.1 (rest := []) rfl (lv_room (Nat.le_of_ble_eq_true rfl)) dX8_checkAsked_2 ⟨Nat.zero_le _, Nat.zero_le _⟩ (fun r2 H locs hw hW _ hS => ?_)
  refine lv_if_eq (tgt := 27) hx hb dX8_checkAsked_5 (by decide) (fun c5 => ?_) (fun c5 => ?_)
  · have hw := hw.1 c5
    refine tJ_X8_checkAsked_27 C0 hK (hk28 := ?_)  hw _ _ hW hS _ (lv_sub hl [] rfl)
    · intro t0 hw H locs hW hS ls hl
      refine tJ_X8_checkAsked_28 C0 hK  t0 hw _ _ hW hS _ hl
  · have hw := hw.2 c5
    refine lv_iload_n hx hb dX8_checkAsked_8 rfl (lv_at hl 2 rfl) ?_
    refine gk_callSi ⟨hx, hb, hml, hown, hts⟩ (c_X8_isAction l hw) (va_cwS 1 hts (gk_gS ml_X8_201 st_X8_isAction in_X8 co_X8_isAction) rfl rfl rfl (by decide +kernel) ⟨Nat.le_of_ble_eq_true rfl, Nat.le_of_ble_eq_true rfl⟩) hS rfl hl.1 (rest := []) rfl (lv_room (Nat.le_of_ble_eq_true rfl)) dX8_checkAsked_9 ⟨Nat.zero_le _, Nat.zero_le _⟩ (fun r9 H locs hw _ hk hS => ?_)
    have hW := hW.kept (fun k hk9 => hk _ (hW.lt hk9))
    refine lv_if_eq (tgt := 27) hx hb dX8_checkAsked_12 (by decide) (fun c12 => ?_) (fun c12 => ?_)
    · have hw := hw.1 c12
      refine tJ_X8_checkAsked_27 C0 hK (hk28 := ?_)  hw _ _ hW hS _ (lv_sub hl [] rfl)
      · intro t0 hw H locs hW hS ls hl
        refine tJ_X8_checkAsked_28 C0 hK  t0 hw _ _ hW hS _ hl
    · have hw := hw.2 c12
      refine lv_aload_n hx hb dX8_checkAsked_15 rfl (lv_at hl 0 rfl) ?_
      refine lv_iload_n hx hb dX8_checkAsked_16 rfl (lv_at hl 3 rfl) ?_
      refine gk_callRi ⟨hx, hb, hml, hown, hts⟩ (c_X8_isResource l D cI cZ cG cL ad hw) (cwV 1 hts (gk_gV ml_X8_72 im_X8_isResource se_X8_isResource in_X8 co_X8_isResource) rfl rfl rfl (by decide +kernel) ⟨Nat.le_of_ble_eq_true rfl, Nat.le_of_ble_eq_true rfl⟩) (gk_recv hK.1 (gk_o0 hW) rfl) hW hK hS rfl hl.1 (rest := []) rfl (lv_room (Nat.le_of_ble_eq_true rfl)) dX8_checkAsked_17 ⟨Nat.zero_le _, Nat.zero_le _⟩ (fun r17 H locs hw hW _ hS => ?_)
      refine lv_if_eq (tgt := 27) hx hb dX8_checkAsked_20 (by decide) (fun c20 => ?_) (fun c20 => ?_)
      · have hw := hw.1 c20
        refine tJ_X8_checkAsked_27 C0 hK (hk28 := ?_)  hw _ _ hW hS _ (lv_sub hl [] rfl)
        · intro t0 hw H locs hW hS ls hl
          refine tJ_X8_checkAsked_28 C0 hK  t0 hw _ _ hW hS _ hl
      · have hw := hw.2 c20
        refine lv_iconst (v := 1) hx hb dX8_checkAsked_23 (by decide) ?_
        refine lv_goto (tgt := 28) hx hb dX8_checkAsked_24 (by decide) ?_
        refine tJ_X8_checkAsked_28 C0 hK  1 hw _ _ hW hS _ (lv_sub hl [] rfl)
def wJ_X8_addUser_22 (k23 : gk_C → Int32 → Int32 → Int32 → Prop) (σ : gk_C) (x1 : Int32) (x2 : Int32) : Prop := (k23 σ x1 x2 0)
def wJ_X8_addUser_46 (Q : Int32 → gk_C → Prop) (σ : gk_C) (x1 : Int32) (x2 : Int32) (t0 : Int32) : Prop := ((¬ t0 = 0) ∧ w_X6_add σ x1 x2 (fun r58 σ58 => Q r58 σ58))
def wJ_X8_addUser_23 (Q : Int32 → gk_C → Prop) (σ : gk_C) (x1 : Int32) (x2 : Int32) (t0 : Int32) : Prop := ((¬ t0 = 0) ∧ ((12 ≤ (σ.2 0)) → (wJ_X8_addUser_46 Q σ x1 x2 0)) ∧ ((¬ 12 ≤ (σ.2 0)) → (wJ_X8_addUser_46 Q σ x1 x2 1)))
def w_X8_addUser (σ : gk_C) (a0 : Int32) (a1 : Int32) (Q : Int32 → gk_C → Prop) : Prop := (w_X8_isUpTo a0 3 (fun r2 => ((r2 = 0) → (wJ_X8_addUser_22 (fun σ x1 x2 t0 => (wJ_X8_addUser_23 Q σ x1 x2 t0)) σ a0 a1)) ∧ ((¬ r2 = 0) → (w_X8_isUpTo a1 255 (fun r12 => ((r12 = 0) → (wJ_X8_addUser_22 (fun σ x1 x2 t0 => (wJ_X8_addUser_23 Q σ x1 x2 t0)) σ a0 a1)) ∧ ((¬ r12 = 0) → (wJ_X8_addUser_23 Q σ a0 a1 1)))))))
abbrev rmX8_addUser : Room := { frames := 2, cells := 0, slots := 0, locals := 45 }
set_option maxHeartbeats 4000000 in
set_option maxRecDepth 100000 in
theorem tJ_X8_addUser_22 {p : Program} {l : Launch} {e : Env} {s : State} {m : MethodId} {args : Array Value} {below : List Frame} {meth : Method} {c : Code} {D : va_G} {cI cZ cG cL : ClassId} {ad : Nat → Nat} (C0 : gk_F p s m args meth c cX8_addUser 3 (some .int) RX8) (hK : gk_K D cI cZ cG cL s) {Q : Int32 → gk_C → Prop} {k23 : gk_C → Int32 → Int32 → Int32 → Prop} (hk23 : ∀ (σ : gk_C) (x1 : Int32) (x2 : Int32) (t0 : Int32), k23 σ x1 x2 t0 → ∀ (H : Heap) (locs : List Loc), gk_W D cI ad σ H → va_S (gk_A ad s.heap.size) s.heap H locs → ∀ (ls : Array Slot), lv_has ls 3 [(0, .ref (ad 0)), (1, .int x1), (2, .int x2)] → W p l e rmX8_addUser s m args below meth c H locs 0 0 (MQ below (va_Qi (fun r u => Q r u) (gk_B D cI ad) (gk_A ad s.heap.size)) args s 0 0 (gk_A ad s.heap.size)) (F0 m 23 ls [.int t0])) : ∀ (σ : gk_C) (x1 : Int32) (x2 : Int32), wJ_X8_addUser_22 k23 σ x1 x2 → ∀ (H : Heap) (locs : List Loc), gk_W D cI ad σ H → va_S (gk_A ad s.heap.size) s.heap H locs → ∀ (ls : Array Slot), lv_has ls 3 [(0, .ref (ad 0)), (1, .int x1), (2, .int x2)] → W p l e rmX8_addUser s m args below meth c H locs 0 0 (MQ below (va_Qi (fun r u => Q r u) (gk_B D cI ad) (gk_A ad s.heap.size)) args s 0 0 (gk_A ad s.heap.size)) (F0 m 22 ls []) := by
  obtain ⟨hx, hb, hml, hown, hts, hr, hlocks⟩ := id C0
  intro σ x1 x2 hw H locs hW hS ls hl
  refine lv_iconst (v := 0) hx hb dX8_addUser_22 (by decide) ?_
  exact hk23 σ x1 x2 0 hw _ _ hW hS _ hl
set_option maxHeartbeats 4000000 in
set_option maxRecDepth 100000 in
theorem tJ_X8_addUser_46 {p : Program} {l : Launch} {e : Env} {s : State} {m : MethodId} {args : Array Value} {below : List Frame} {meth : Method} {c : Code} {D : va_G} {cI cZ cG cL : ClassId} {ad : Nat → Nat} (C0 : gk_F p s m args meth c cX8_addUser 3 (some .int) RX8) (hK : gk_K D cI cZ cG cL s) {Q : Int32 → gk_C → Prop} : ∀ (σ : gk_C) (x1 : Int32) (x2 : Int32) (t0 : Int32), wJ_X8_addUser_46 Q σ x1 x2 t0 → ∀ (H : Heap) (locs : List Loc), gk_W D cI ad σ H → va_S (gk_A ad s.heap.size) s.heap H locs → ∀ (ls : Array Slot), lv_has ls 3 [(0, .ref (ad 0)), (1, .int x1), (2, .int x2)] → W p l e rmX8_addUser s m args below meth c H locs 0 0 (MQ below (va_Qi (fun r u => Q r u) (gk_B D cI ad) (gk_A ad s.heap.size)) args s 0 0 (gk_A ad s.heap.size)) (F0 m 46 ls [.int t0]) := by
  obtain ⟨hx, hb, hml, hown, hts, hr, hlocks⟩ := id C0
  intro σ x1 x2 t0 hw H locs hW hS ls hl
  obtain ⟨hc, hw⟩ := hw
  refine gk_callSv ⟨hx, hb, hml, hown, hts⟩ (c0_X8_checkState l hc) (va_cwS 1 hts (gk_gS ml_X8_55 st_X8_checkState in_X8 co_X8_checkState) rfl rfl rfl (by decide +kernel) ⟨Nat.le_of_ble_eq_true rfl, Nat.le_of_ble_eq_true rfl⟩) hS rfl hl.1 (rest := []) rfl (lv_room (Nat.le_of_ble_eq_true rfl)) dX8_addUser_46 ⟨Nat.zero_le _, Nat.zero_le _⟩ (fun H locs _ hk hS => ?_)
  have hW := hW.kept (fun k hk9 => hk _ (hW.lt hk9))
  refine lv_aload_n hx hb dX8_addUser_49 rfl (lv_at hl 0 rfl) ?_
  refine gk_get hx hb hts iwX8 hown hK.1 (gk_o0 hW) rfl 0 (by decide) (hts _ fl_X8_10) (fun _ h9 => h9) rfl dX8_addUser_50 ?_
  refine gk_getN hx hb hts iwX4 hown hK.1 (gk_o1 hW) rfl 0 (by decide) (gk_nw hK nf_X8_45) (fun _ h9 => h9) rfl dX8_addUser_53 ?_
  refine lv_iload_n hx hb dX8_addUser_56 rfl (lv_at hl 1 rfl) ?_
  refine lv_iload_n hx hb dX8_addUser_57 rfl (lv_at hl 2 rfl) ?_
  refine gk_callVi ⟨hx, hb, hml, hown, hts⟩ (c_X6_add l D cI cZ cG cL ad hw) (cwV 2 hts (gk_gV ml_X8_58 im_X6_add se_X6_add in_X6 co_X6_add) rfl rfl rfl (by decide +kernel) ⟨Nat.le_of_ble_eq_true rfl, Nat.le_of_ble_eq_true rfl⟩) (gk_recv hK.1 (gk_o2 hW) rfl) hW hK hS rfl hl.1 (rest := []) rfl (lv_room (Nat.le_of_ble_eq_true rfl)) dX8_addUser_58 ⟨Nat.zero_le _, Nat.zero_le _⟩ (fun r58 σ58 H locs hw hW _ hS => ?_)
  exact gk_reti C0 hw hW hS dX8_addUser_61
set_option maxHeartbeats 4000000 in
set_option maxRecDepth 100000 in
theorem tJ_X8_addUser_23 {p : Program} {l : Launch} {e : Env} {s : State} {m : MethodId} {args : Array Value} {below : List Frame} {meth : Method} {c : Code} {D : va_G} {cI cZ cG cL : ClassId} {ad : Nat → Nat} (C0 : gk_F p s m args meth c cX8_addUser 3 (some .int) RX8) (hK : gk_K D cI cZ cG cL s) {Q : Int32 → gk_C → Prop} : ∀ (σ : gk_C) (x1 : Int32) (x2 : Int32) (t0 : Int32), wJ_X8_addUser_23 Q σ x1 x2 t0 → ∀ (H : Heap) (locs : List Loc), gk_W D cI ad σ H → va_S (gk_A ad s.heap.size) s.heap H locs → ∀ (ls : Array Slot), lv_has ls 3 [(0, .ref (ad 0)), (1, .int x1), (2, .int x2)] → W p l e rmX8_addUser s m args below meth c H locs 0 0 (MQ below (va_Qi (fun r u => Q r u) (gk_B D cI ad) (gk_A ad s.heap.size)) args s 0 0 (gk_A ad s.heap.size)) (F0 m 23 ls [.int t0]) := by
  obtain ⟨hx, hb, hml, hown, hts, hr, hlocks⟩ := id C0
  intro σ x1 x2 t0 hw H locs hW hS ls hl
  obtain ⟨hc, hw⟩ := hw
  refine gk_callSv ⟨hx, hb, hml, hown, hts⟩ (c0_X8_checkArguments l hc) (va_cwS 1 hts (gk_gS ml_X8_41 st_X8_checkArguments in_X8 co_X8_checkArguments) rfl rfl rfl (by decide +kernel) ⟨Nat.le_of_ble_eq_true rfl, Nat.le_of_ble_eq_true rfl⟩) hS rfl hl.1 (rest := []) rfl (lv_room (Nat.le_of_ble_eq_true rfl)) dX8_addUser_23 ⟨Nat.zero_le _, Nat.zero_le _⟩ (fun H locs _ hk hS => ?_)
  have hW := hW.kept (fun k hk9 => hk _ (hW.lt hk9))
  refine lv_aload_n hx hb dX8_addUser_26 rfl (lv_at hl 0 rfl) ?_
  refine gk_get hx hb hts iwX8 hown hK.1 (gk_o0 hW) rfl 0 (by decide) (hts _ fl_X8_10) (fun _ h9 => h9) rfl dX8_addUser_27 ?_
  refine gk_getN hx hb hts iwX4 hown hK.1 (gk_o1 hW) rfl 0 (by decide) (gk_nw hK nf_X8_45) (fun _ h9 => h9) rfl dX8_addUser_30 ?_
  refine gk_getN hx hb hts iwX6 hown hK.1 (gk_o2 hW) rfl 0 (by decide) (gk_nw hK nf_X8_49) (fun _ h9 => h9) rfl dX8_addUser_33 ?_
  refine lv_bipush (v := 12) hx hb dX8_addUser_36 (by decide) ?_
  refine lv_icmp_ge (tgt := 45) hx hb dX8_addUser_38 (by decide) (fun c38 => ?_) (fun c38 => ?_)
  · have hw := hw.1 c38
    refine lv_iconst (v := 0) hx hb dX8_addUser_45 (by decide) ?_
    refine tJ_X8_addUser_46 C0 hK  σ x1 x2 0 hw _ _ hW hS _ hl
  · have hw := hw.2 c38
    refine lv_iconst (v := 1) hx hb dX8_addUser_41 (by decide) ?_
    refine lv_goto (tgt := 46) hx hb dX8_addUser_42 (by decide) ?_
    refine tJ_X8_addUser_46 C0 hK  σ x1 x2 1 hw _ _ hW hS _ hl
set_option maxHeartbeats 4000000 in
set_option maxRecDepth 100000 in
theorem c_X8_addUser (l : Launch) (D : va_G) (cI cZ cG cL : ClassId) (ad : Nat → Nat) {σ : gk_C} {a0 : Int32} {a1 : Int32} {Q : Int32 → gk_C → Prop} {sz : Nat} (hw : w_X8_addUser σ a0 a1 Q) : Met l yX8_addUser wsX8_addUser rmX8_addUser (gk_Pc D cI cZ cG cL ad [.ref (ad 0), .int a0, .int a1] sz σ) (va_Qi (fun r u => Q r u) (gk_B D cI ad) (gk_A ad sz)) 0 0 (gk_A ad sz) := by
  refine Met.ofW (cc := cX8_addUser) (maxL := 3) (ret := (some .int)) (by decide) rfl ?_
  intro p e s m args below meth c s₁ B hml0 hv0
  obtain ⟨rfl, hsz, hW, hK⟩ := hv0
  subst hsz
  have C0 : gk_F p s m ([.ref (ad 0), .int a0, .int a1] : List Value).toArray meth c cX8_addUser 3 (some .int) RX8 := ⟨B.exec, B.bytes, hml0, findClass_of_methodNamed B.named, fun w hw => atoms_spec (ws := wsX8_addUser) B.pre w (List.mem_cons_of_mem _ hw), B.returns, B.notSynchronized⟩
  obtain ⟨hx, hb, hml, hown, hts, hr, hlocks⟩ := id C0
  have hS : va_S (gk_A ad s.heap.size) s.heap s.heap [] := va_S.rf
  have hl := lv_entry ([.ref (ad 0), .int a0, .int a1]) (n := 3) (Nat.le_of_ble_eq_true rfl)
  rw [lg_entry_eq]
  generalize (lg_sl ([.ref (ad 0), .int a0, .int a1]) ++ List.replicate (3 - (lg_sl ([.ref (ad 0), .int a0, .int a1])).length) Slot.unset).toArray = ls at hl ⊢
  have hl : lv_has ls 3 [(0, .ref (ad 0)), (1, .int a0), (2, .int a1)] := hl
  show W p l e rmX8_addUser s m _ below meth c s.heap [] 0 0 _ _
  refine lv_iload_n hx hb dX8_addUser_0 rfl (lv_at hl 1 rfl) ?_
  refine lv_iconst (v := 3) hx hb dX8_addUser_1 (by decide) ?_
  refine gk_callSi ⟨hx, hb, hml, hown, hts⟩ (c_X8_isUpTo l hw) (va_cwS 2 hts (gk_gS ml_X8_37 st_X8_isUpTo in_X8 co_X8_isUpTo) rfl rfl rfl (by decide +kernel) ⟨Nat.le_of_ble_eq_true rfl, Nat.le_of_ble_eq_true rfl⟩) hS rfl hl.1 (rest := []) rfl (lv_room (Nat.le_of_ble_eq_true rfl)) dX8_addUser_2 ⟨Nat.zero_le _, Nat.zero_le _⟩ (fun r2 H locs hw _ hk hS => ?_)
  have hW := hW.kept (fun k hk9 => hk _ (hW.lt hk9))
  refine lv_if_eq (tgt := 22) hx hb dX8_addUser_5 (by decide) (fun c5 => ?_) (fun c5 => ?_)
  · have hw := hw.1 c5
    refine tJ_X8_addUser_22 C0 hK (hk23 := ?_) σ a0 a1 hw _ _ hW hS _ hl
    · intro σ x1 x2 t0 hw H locs hW hS ls hl
      refine tJ_X8_addUser_23 C0 hK  σ x1 x2 t0 hw _ _ hW hS _ hl
  · have hw := hw.2 c5
    refine lv_iload_n hx hb dX8_addUser_8 rfl (lv_at hl 2 rfl) ?_
    refine lv_sipush (v := 255) hx hb dX8_addUser_9 (by decide) ?_
    refine gk_callSi ⟨hx, hb, hml, hown, hts⟩ (c_X8_isUpTo l hw) (va_cwS 2 hts (gk_gS ml_X8_37 st_X8_isUpTo in_X8 co_X8_isUpTo) rfl rfl rfl (by decide +kernel) ⟨Nat.le_of_ble_eq_true rfl, Nat.le_of_ble_eq_true rfl⟩) hS rfl hl.1 (rest := []) rfl (lv_room (Nat.le_of_ble_eq_true rfl)) dX8_addUser_12 ⟨Nat.zero_le _, Nat.zero_le _⟩ (fun r12 H locs hw _ hk hS => ?_)
    have hW := hW.kept (fun k hk9 => hk _ (hW.lt hk9))
    refine lv_if_eq (tgt := 22) hx hb dX8_addUser_15 (by decide) (fun c15 => ?_) (fun c15 => ?_)
    · have hw := hw.1 c15
      refine tJ_X8_addUser_22 C0 hK (hk23 := ?_) σ a0 a1 hw _ _ hW hS _ hl
      · intro σ x1 x2 t0 hw H locs hW hS ls hl
        refine tJ_X8_addUser_23 C0 hK  σ x1 x2 t0 hw _ _ hW hS _ hl
    · have hw := hw.2 c15
      refine lv_iconst (v := 1) hx hb dX8_addUser_18 (by decide) ?_
      refine lv_goto (tgt := 23) hx hb dX8_addUser_19 (by decide) ?_
      refine tJ_X8_addUser_23 C0 hK  σ a0 a1 1 hw _ _ hW hS _ hl
def wJ_X8_addRole_20 (Q : Int32 → gk_C → Prop) (σ : gk_C) (t0 : Int32) : Prop := ((¬ t0 = 0) ∧ w_X1_add σ (fun r30 σ30 => Q r30 σ30))
def w_X8_addRole (σ : gk_C)  (Q : Int32 → gk_C → Prop) : Prop := (((12 ≤ (σ.2 1)) → (wJ_X8_addRole_20 Q σ 0)) ∧ ((¬ 12 ≤ (σ.2 1)) → (wJ_X8_addRole_20 Q σ 1)))
abbrev rmX8_addRole : Room := { frames := 1, cells := 0, slots := 0, locals := 21 }
set_option maxHeartbeats 4000000 in
set_option maxRecDepth 100000 in
theorem tJ_X8_addRole_20 {p : Program} {l : Launch} {e : Env} {s : State} {m : MethodId} {args : Array Value} {below : List Frame} {meth : Method} {c : Code} {D : va_G} {cI cZ cG cL : ClassId} {ad : Nat → Nat} (C0 : gk_F p s m args meth c cX8_addRole 1 (some .int) RX8) (hK : gk_K D cI cZ cG cL s) {Q : Int32 → gk_C → Prop} : ∀ (σ : gk_C) (t0 : Int32), wJ_X8_addRole_20 Q σ t0 → ∀ (H : Heap) (locs : List Loc), gk_W D cI ad σ H → va_S (gk_A ad s.heap.size) s.heap H locs → ∀ (ls : Array Slot), lv_has ls 1 [(0, .ref (ad 0))] → W p l e rmX8_addRole s m args below meth c H locs 0 0 (MQ below (va_Qi (fun r u => Q r u) (gk_B D cI ad) (gk_A ad s.heap.size)) args s 0 0 (gk_A ad s.heap.size)) (F0 m 20 ls [.int t0]) := by
  obtain ⟨hx, hb, hml, hown, hts, hr, hlocks⟩ := id C0
  intro σ t0 hw H locs hW hS ls hl
  obtain ⟨hc, hw⟩ := hw
  refine gk_callSv ⟨hx, hb, hml, hown, hts⟩ (c0_X8_checkState l hc) (va_cwS 1 hts (gk_gS ml_X8_55 st_X8_checkState in_X8 co_X8_checkState) rfl rfl rfl (by decide +kernel) ⟨Nat.le_of_ble_eq_true rfl, Nat.le_of_ble_eq_true rfl⟩) hS rfl hl.1 (rest := []) rfl (lv_room (Nat.le_of_ble_eq_true rfl)) dX8_addRole_20 ⟨Nat.zero_le _, Nat.zero_le _⟩ (fun H locs _ hk hS => ?_)
  have hW := hW.kept (fun k hk9 => hk _ (hW.lt hk9))
  refine lv_aload_n hx hb dX8_addRole_23 rfl (lv_at hl 0 rfl) ?_
  refine gk_get hx hb hts iwX8 hown hK.1 (gk_o0 hW) rfl 0 (by decide) (hts _ fl_X8_10) (fun _ h9 => h9) rfl dX8_addRole_24 ?_
  refine gk_getN hx hb hts iwX4 hown hK.1 (gk_o1 hW) rfl 1 (by decide) (gk_nw hK nf_X8_62) (fun _ h9 => h9) rfl dX8_addRole_27 ?_
  refine gk_callVi ⟨hx, hb, hml, hown, hts⟩ (c_X1_add l D cI cZ cG cL ad hw) (cwV 0 hts (gk_gV ml_X8_69 im_X1_add se_X1_add in_X1 co_X1_add) rfl rfl rfl (by decide +kernel) ⟨Nat.le_of_ble_eq_true rfl, Nat.le_of_ble_eq_true rfl⟩) (gk_recv hK.1 (gk_o3 hW) rfl) hW hK hS rfl hl.1 (rest := []) rfl (lv_room (Nat.le_of_ble_eq_true rfl)) dX8_addRole_30 ⟨Nat.zero_le _, Nat.zero_le _⟩ (fun r30 σ30 H locs hw hW _ hS => ?_)
  exact gk_reti C0 hw hW hS dX8_addRole_33
set_option maxHeartbeats 4000000 in
set_option maxRecDepth 100000 in
theorem c_X8_addRole (l : Launch) (D : va_G) (cI cZ cG cL : ClassId) (ad : Nat → Nat) {σ : gk_C} {Q : Int32 → gk_C → Prop} {sz : Nat} (hw : w_X8_addRole σ  Q) : Met l yX8_addRole wsX8_addRole rmX8_addRole (gk_Pc D cI cZ cG cL ad [.ref (ad 0)] sz σ) (va_Qi (fun r u => Q r u) (gk_B D cI ad) (gk_A ad sz)) 0 0 (gk_A ad sz) := by
  refine Met.ofW (cc := cX8_addRole) (maxL := 1) (ret := (some .int)) (by decide) rfl ?_
  intro p e s m args below meth c s₁ B hml0 hv0
  obtain ⟨rfl, hsz, hW, hK⟩ := hv0
  subst hsz
  have C0 : gk_F p s m ([.ref (ad 0)] : List Value).toArray meth c cX8_addRole 1 (some .int) RX8 := ⟨B.exec, B.bytes, hml0, findClass_of_methodNamed B.named, fun w hw => atoms_spec (ws := wsX8_addRole) B.pre w (List.mem_cons_of_mem _ hw), B.returns, B.notSynchronized⟩
  obtain ⟨hx, hb, hml, hown, hts, hr, hlocks⟩ := id C0
  have hS : va_S (gk_A ad s.heap.size) s.heap s.heap [] := va_S.rf
  have hl := lv_entry ([.ref (ad 0)]) (n := 1) (Nat.le_of_ble_eq_true rfl)
  rw [lg_entry_eq]
  generalize (lg_sl ([.ref (ad 0)]) ++ List.replicate (1 - (lg_sl ([.ref (ad 0)])).length) Slot.unset).toArray = ls at hl ⊢
  have hl : lv_has ls 1 [(0, .ref (ad 0))] := hl
  show W p l e rmX8_addRole s m _ below meth c s.heap [] 0 0 _ _
  refine lv_aload_n hx hb dX8_addRole_0 rfl (lv_at hl 0 rfl) ?_
  refine gk_get hx hb hts iwX8 hown hK.1 (gk_o0 hW) rfl 0 (by decide) (hts _ fl_X8_10) (fun _ h9 => h9) rfl dX8_addRole_1 ?_
  refine gk_getN hx hb hts iwX4 hown hK.1 (gk_o1 hW) rfl 1 (by decide) (gk_nw hK nf_X8_62) (fun _ h9 => h9) rfl dX8_addRole_4 ?_
  refine gk_getN hx hb hts iwX1 hown hK.1 (gk_o3 hW) rfl 0 (by decide) (gk_nw hK nf_X8_66) (fun _ h9 => h9) rfl dX8_addRole_7 ?_
  refine lv_bipush (v := 12) hx hb dX8_addRole_10 (by decide) ?_
  refine lv_icmp_ge (tgt := 19) hx hb dX8_addRole_12 (by decide) (fun c12 => ?_) (fun c12 => ?_)
  · have hw := hw.1 c12
    refine lv_iconst (v := 0) hx hb dX8_addRole_19 (by decide) ?_
    refine tJ_X8_addRole_20 C0 hK  σ 0 hw _ _ hW hS _ hl
  · have hw := hw.2 c12
    refine lv_iconst (v := 1) hx hb dX8_addRole_15 (by decide) ?_
    refine lv_goto (tgt := 20) hx hb dX8_addRole_16 (by decide) ?_
    refine tJ_X8_addRole_20 C0 hK  σ 1 hw _ _ hW hS _ hl
def wJ_X8_addResource_28 (Q : Int32 → gk_C → Prop) (σ : gk_C) (x1 : Int32) (t0 : Int32) : Prop := ((¬ t0 = 0) ∧ w_X5_add σ x1 (fun r39 σ39 => Q r39 σ39))
def w_X8_addResource (σ : gk_C) (a0 : Int32) (Q : Int32 → gk_C → Prop) : Prop := (w_X8_isResource σ a0 (fun r2 => (¬ r2 = 0) ∧ ((24 ≤ (σ.2 3)) → (wJ_X8_addResource_28 Q σ a0 0)) ∧ ((¬ 24 ≤ (σ.2 3)) → (wJ_X8_addResource_28 Q σ a0 1))))
abbrev rmX8_addResource : Room := { frames := 2, cells := 0, slots := 0, locals := 44 }
set_option maxHeartbeats 4000000 in
set_option maxRecDepth 100000 in
theorem tJ_X8_addResource_28 {p : Program} {l : Launch} {e : Env} {s : State} {m : MethodId} {args : Array Value} {below : List Frame} {meth : Method} {c : Code} {D : va_G} {cI cZ cG cL : ClassId} {ad : Nat → Nat} (C0 : gk_F p s m args meth c cX8_addResource 2 (some .int) RX8) (hK : gk_K D cI cZ cG cL s) {Q : Int32 → gk_C → Prop} : ∀ (σ : gk_C) (x1 : Int32) (t0 : Int32), wJ_X8_addResource_28 Q σ x1 t0 → ∀ (H : Heap) (locs : List Loc), gk_W D cI ad σ H → va_S (gk_A ad s.heap.size) s.heap H locs → ∀ (ls : Array Slot), lv_has ls 2 [(0, .ref (ad 0)), (1, .int x1)] → W p l e rmX8_addResource s m args below meth c H locs 0 0 (MQ below (va_Qi (fun r u => Q r u) (gk_B D cI ad) (gk_A ad s.heap.size)) args s 0 0 (gk_A ad s.heap.size)) (F0 m 28 ls [.int t0]) := by
  obtain ⟨hx, hb, hml, hown, hts, hr, hlocks⟩ := id C0
  intro σ x1 t0 hw H locs hW hS ls hl
  obtain ⟨hc, hw⟩ := hw
  refine gk_callSv ⟨hx, hb, hml, hown, hts⟩ (c0_X8_checkState l hc) (va_cwS 1 hts (gk_gS ml_X8_55 st_X8_checkState in_X8 co_X8_checkState) rfl rfl rfl (by decide +kernel) ⟨Nat.le_of_ble_eq_true rfl, Nat.le_of_ble_eq_true rfl⟩) hS rfl hl.1 (rest := []) rfl (lv_room (Nat.le_of_ble_eq_true rfl)) dX8_addResource_28 ⟨Nat.zero_le _, Nat.zero_le _⟩ (fun H locs _ hk hS => ?_)
  have hW := hW.kept (fun k hk9 => hk _ (hW.lt hk9))
  refine lv_aload_n hx hb dX8_addResource_31 rfl (lv_at hl 0 rfl) ?_
  refine gk_get hx hb hts iwX8 hown hK.1 (gk_o0 hW) rfl 0 (by decide) (hts _ fl_X8_10) (fun _ h9 => h9) rfl dX8_addResource_32 ?_
  refine gk_getN hx hb hts iwX4 hown hK.1 (gk_o1 hW) rfl 2 (by decide) (gk_nw hK nf_X8_79) (fun _ h9 => h9) rfl dX8_addResource_35 ?_
  refine lv_iload_n hx hb dX8_addResource_38 rfl (lv_at hl 1 rfl) ?_
  refine gk_callVi ⟨hx, hb, hml, hown, hts⟩ (c_X5_add l D cI cZ cG cL ad hw) (cwV 1 hts (gk_gV ml_X8_86 im_X5_add se_X5_add in_X5 co_X5_add) rfl rfl rfl (by decide +kernel) ⟨Nat.le_of_ble_eq_true rfl, Nat.le_of_ble_eq_true rfl⟩) (gk_recv hK.1 (gk_o4 hW) rfl) hW hK hS rfl hl.1 (rest := []) rfl (lv_room (Nat.le_of_ble_eq_true rfl)) dX8_addResource_39 ⟨Nat.zero_le _, Nat.zero_le _⟩ (fun r39 σ39 H locs hw hW _ hS => ?_)
  exact gk_reti C0 hw hW hS dX8_addResource_42
set_option maxHeartbeats 4000000 in
set_option maxRecDepth 100000 in
theorem c_X8_addResource (l : Launch) (D : va_G) (cI cZ cG cL : ClassId) (ad : Nat → Nat) {σ : gk_C} {a0 : Int32} {Q : Int32 → gk_C → Prop} {sz : Nat} (hw : w_X8_addResource σ a0 Q) : Met l yX8_addResource wsX8_addResource rmX8_addResource (gk_Pc D cI cZ cG cL ad [.ref (ad 0), .int a0] sz σ) (va_Qi (fun r u => Q r u) (gk_B D cI ad) (gk_A ad sz)) 0 0 (gk_A ad sz) := by
  refine Met.ofW (cc := cX8_addResource) (maxL := 2) (ret := (some .int)) (by decide) rfl ?_
  intro p e s m args below meth c s₁ B hml0 hv0
  obtain ⟨rfl, hsz, hW, hK⟩ := hv0
  subst hsz
  have C0 : gk_F p s m ([.ref (ad 0), .int a0] : List Value).toArray meth c cX8_addResource 2 (some .int) RX8 := ⟨B.exec, B.bytes, hml0, findClass_of_methodNamed B.named, fun w hw => atoms_spec (ws := wsX8_addResource) B.pre w (List.mem_cons_of_mem _ hw), B.returns, B.notSynchronized⟩
  obtain ⟨hx, hb, hml, hown, hts, hr, hlocks⟩ := id C0
  have hS : va_S (gk_A ad s.heap.size) s.heap s.heap [] := va_S.rf
  have hl := lv_entry ([.ref (ad 0), .int a0]) (n := 2) (Nat.le_of_ble_eq_true rfl)
  rw [lg_entry_eq]
  generalize (lg_sl ([.ref (ad 0), .int a0]) ++ List.replicate (2 - (lg_sl ([.ref (ad 0), .int a0])).length) Slot.unset).toArray = ls at hl ⊢
  have hl : lv_has ls 2 [(0, .ref (ad 0)), (1, .int a0)] := hl
  show W p l e rmX8_addResource s m _ below meth c s.heap [] 0 0 _ _
  refine lv_aload_n hx hb dX8_addResource_0 rfl (lv_at hl 0 rfl) ?_
  refine lv_iload_n hx hb dX8_addResource_1 rfl (lv_at hl 1 rfl) ?_
  refine gk_callRi ⟨hx, hb, hml, hown, hts⟩ (c_X8_isResource l D cI cZ cG cL ad hw) (cwV 1 hts (gk_gV ml_X8_72 im_X8_isResource se_X8_isResource in_X8 co_X8_isResource) rfl rfl rfl (by decide +kernel) ⟨Nat.le_of_ble_eq_true rfl, Nat.le_of_ble_eq_true rfl⟩) (gk_recv hK.1 (gk_o0 hW) rfl) hW hK hS rfl hl.1 (rest := []) rfl (lv_room (Nat.le_of_ble_eq_true rfl)) dX8_addResource_2 ⟨Nat.zero_le _, Nat.zero_le _⟩ (fun r2 H locs hw hW _ hS => ?_)
  obtain ⟨hc, hw⟩ := hw
  refine gk_callSv ⟨hx, hb, hml, hown, hts⟩ (c0_X8_checkThere l hc) (va_cwS 1 hts (gk_gS ml_X8_76 st_X8_checkThere in_X8 co_X8_checkThere) rfl rfl rfl (by decide +kernel) ⟨Nat.le_of_ble_eq_true rfl, Nat.le_of_ble_eq_true rfl⟩) hS rfl hl.1 (rest := []) rfl (lv_room (Nat.le_of_ble_eq_true rfl)) dX8_addResource_5 ⟨Nat.zero_le _, Nat.zero_le _⟩ (fun H locs _ hk hS => ?_)
  have hW := hW.kept (fun k hk9 => hk _ (hW.lt hk9))
  refine lv_aload_n hx hb dX8_addResource_8 rfl (lv_at hl 0 rfl) ?_
  refine gk_get hx hb hts iwX8 hown hK.1 (gk_o0 hW) rfl 0 (by decide) (hts _ fl_X8_10) (fun _ h9 => h9) rfl dX8_addResource_9 ?_
  refine gk_getN hx hb hts iwX4 hown hK.1 (gk_o1 hW) rfl 2 (by decide) (gk_nw hK nf_X8_79) (fun _ h9 => h9) rfl dX8_addResource_12 ?_
  refine gk_getN hx hb hts iwX5 hown hK.1 (gk_o4 hW) rfl 0 (by decide) (gk_nw hK nf_X8_83) (fun _ h9 => h9) rfl dX8_addResource_15 ?_
  refine lv_bipush (v := 24) hx hb dX8_addResource_18 (by decide) ?_
  refine lv_icmp_ge (tgt := 27) hx hb dX8_addResource_20 (by decide) (fun c20 => ?_) (fun c20 => ?_)
  · have hw := hw.1 c20
    refine lv_iconst (v := 0) hx hb dX8_addResource_27 (by decide) ?_
    refine tJ_X8_addResource_28 C0 hK  σ a0 0 hw _ _ hW hS _ hl
  · have hw := hw.2 c20
    refine lv_iconst (v := 1) hx hb dX8_addResource_23 (by decide) ?_
    refine lv_goto (tgt := 28) hx hb dX8_addResource_24 (by decide) ?_
    refine tJ_X8_addResource_28 C0 hK  σ a0 1 hw _ _ hW hS _ hl
def wJ_X8_setRole_20 (T : String → gk_C → Prop) (k21 : gk_C → Int32 → Int32 → Int32 → Int32 → Prop) (σ : gk_C) (x1 : Int32) (x2 : Int32) (x3 : Int32) : Prop := (k21 σ x1 x2 x3 0)
def wJ_X8_setRole_93 (T : String → gk_C → Prop) (Q : Int32 → gk_C → Prop) (σ : gk_C) (x1 : Int32) (x2 : Int32) (x4 : Int32) (x5 : Int32) (t0 : Int32) : Prop := (w_X8_checkState t0 (fun E => T E σ) (w_X8_isIn x4 x2 (fun r115 => gk_z r115 ∧ Q r115 (gk_put σ 2 x1 x5))))
def wJ_X8_setRole_61 (T : String → gk_C → Prop) (Q : Int32 → gk_C → Prop) (σ : gk_C) (x1 : Int32) (x2 : Int32) (x4 : Int32) (t0 : Int32) : Prop := (w_X1_hadWith σ t0 (fun r79 => w_X1_isSplit σ r79 (fun r82 => ((¬ r82 = 0) → (wJ_X8_setRole_93 T Q σ x1 x2 x4 t0 0)) ∧ ((r82 = 0) → (wJ_X8_setRole_93 T Q σ x1 x2 x4 t0 1)))))
def wJ_X8_setRole_21 (T : String → gk_C → Prop) (Q : Int32 → gk_C → Prop) (σ : gk_C) (x1 : Int32) (x2 : Int32) (x3 : Int32) (t0 : Int32) : Prop := (w_X8_checkThere t0 (fun E => T E σ) (((x3 = 0) → (wJ_X8_setRole_61 T Q σ x1 x2 (gk_at σ 2 x1) ((gk_at σ 2 x1) &&& ((1 <<< (x2 &&& 31)) ^^^ (-1))))) ∧ ((¬ x3 = 0) → (wJ_X8_setRole_61 T Q σ x1 x2 (gk_at σ 2 x1) ((gk_at σ 2 x1) ||| (1 <<< (x2 &&& 31)))))))
def w_X8_setRole (σ : gk_C) (a0 : Int32) (a1 : Int32) (a2 : Int32) (T : String → gk_C → Prop) (Q : Int32 → gk_C → Prop) : Prop := (w_X8_isUser σ a0 (fun r2 => ((r2 = 0) → (wJ_X8_setRole_20 T (fun σ x1 x2 x3 t0 => (wJ_X8_setRole_21 T Q σ x1 x2 x3 t0)) σ a0 a1 a2)) ∧ ((¬ r2 = 0) → (w_X8_isRole σ a1 (fun r10 => ((r10 = 0) → (wJ_X8_setRole_20 T (fun σ x1 x2 x3 t0 => (wJ_X8_setRole_21 T Q σ x1 x2 x3 t0)) σ a0 a1 a2)) ∧ ((¬ r10 = 0) → (wJ_X8_setRole_21 T Q σ a0 a1 a2 1)))))))
abbrev rmX8_setRole : Room := { frames := 7, cells := 2, slots := 12, locals := 102 }
set_option maxHeartbeats 4000000 in
set_option maxRecDepth 100000 in
theorem tJ_X8_setRole_20 {p : Program} {l : Launch} {e : Env} {s : State} {m : MethodId} {args : Array Value} {below : List Frame} {meth : Method} {c : Code} {D : va_G} {cI cZ cG cL : ClassId} {ad : Nat → Nat} (C0 : gk_F p s m args meth c cX8_setRole 6 (some .boolean) RX8) (hK : gk_K D cI cZ cG cL s) (ht : ∀ x ∈ c.exceptionTable.toList, False) (hfl : l.stackTraces = false) {q1 q2 q3 : Nat} (hY : gk_Y q1 q2 q3 (gk_A ad s.heap.size) s s.heap) {T : String → gk_C → Prop} {Q : Int32 → gk_C → Prop} {k21 : gk_C → Int32 → Int32 → Int32 → Int32 → Prop} (hk21 : ∀ (σ : gk_C) (x1 : Int32) (x2 : Int32) (x3 : Int32) (t0 : Int32), k21 σ x1 x2 x3 t0 → ∀ (H : Heap) (locs : List Loc), gk_W D cI ad σ H → va_S (gk_A ad s.heap.size) s.heap H locs → ∀ (ls : Array Slot), lv_has ls 6 [(0, .ref (ad 0)), (1, .int x1), (2, .int x2), (3, .int x3)] → W p l e rmX8_setRole s m args below meth c H locs 0 0 (vx_MQ below (va_Qi (fun r u => Q r u) (gk_B D cI ad) (gk_A ad s.heap.size)) (gk_XT D cI ad T s.heap.size) args s 2 12 (gk_A ad s.heap.size)) (F0 m 21 ls [.int t0])) : ∀ (σ : gk_C) (x1 : Int32) (x2 : Int32) (x3 : Int32), wJ_X8_setRole_20 T k21 σ x1 x2 x3 → ∀ (H : Heap) (locs : List Loc), gk_W D cI ad σ H → va_S (gk_A ad s.heap.size) s.heap H locs → ∀ (ls : Array Slot), lv_has ls 6 [(0, .ref (ad 0)), (1, .int x1), (2, .int x2), (3, .int x3)] → W p l e rmX8_setRole s m args below meth c H locs 0 0 (vx_MQ below (va_Qi (fun r u => Q r u) (gk_B D cI ad) (gk_A ad s.heap.size)) (gk_XT D cI ad T s.heap.size) args s 2 12 (gk_A ad s.heap.size)) (F0 m 20 ls []) := by
  obtain ⟨hx, hb, hml, hown, hts, hr, hlocks⟩ := id C0
  intro σ x1 x2 x3 hw H locs hW hS ls hl
  refine lv_iconst (v := 0) hx hb dX8_setRole_20 (by decide) ?_
  exact hk21 σ x1 x2 x3 0 hw _ _ hW hS _ hl
set_option maxHeartbeats 4000000 in
set_option maxRecDepth 100000 in
theorem tJ_X8_setRole_93 {p : Program} {l : Launch} {e : Env} {s : State} {m : MethodId} {args : Array Value} {below : List Frame} {meth : Method} {c : Code} {D : va_G} {cI cZ cG cL : ClassId} {ad : Nat → Nat} (C0 : gk_F p s m args meth c cX8_setRole 6 (some .boolean) RX8) (hK : gk_K D cI cZ cG cL s) (ht : ∀ x ∈ c.exceptionTable.toList, False) (hfl : l.stackTraces = false) {q1 q2 q3 : Nat} (hY : gk_Y q1 q2 q3 (gk_A ad s.heap.size) s s.heap) {T : String → gk_C → Prop} {Q : Int32 → gk_C → Prop} : ∀ (σ : gk_C) (x1 : Int32) (x2 : Int32) (x4 : Int32) (x5 : Int32) (t0 : Int32), wJ_X8_setRole_93 T Q σ x1 x2 x4 x5 t0 → ∀ (H : Heap) (locs : List Loc), gk_W D cI ad σ H → va_S (gk_A ad s.heap.size) s.heap H locs → ∀ (ls : Array Slot), lv_has ls 6 [(0, .ref (ad 0)), (1, .int x1), (2, .int x2), (4, .int x4), (5, .int x5)] → W p l e rmX8_setRole s m args below meth c H locs 1 6 (vx_MQ below (va_Qi (fun r u => Q r u) (gk_B D cI ad) (gk_A ad s.heap.size)) (gk_XT D cI ad T s.heap.size) args s 2 12 (gk_A ad s.heap.size)) (F0 m 93 ls [.int t0]) := by
  obtain ⟨hx, hb, hml, hown, hts, hr, hlocks⟩ := id C0
  intro σ x1 x2 x4 x5 t0 hw H locs hW hS ls hl
  refine gk_chk (T := T) C0 ht (c_X8_checkState l hfl hw) (va_cwS 1 hts (gk_gS ml_X8_55 st_X8_checkState in_X8 co_X8_checkState) rfl rfl rfl (by decide +kernel) ⟨Nat.le_of_ble_eq_true rfl, Nat.le_of_ble_eq_true rfl⟩) hW hY hS hl.1 (rest := []) (lv_room (Nat.le_of_ble_eq_true rfl)) dX8_setRole_93 ⟨Nat.le_of_ble_eq_true rfl, Nat.le_of_ble_eq_true rfl⟩ ⟨Nat.le_of_ble_eq_true rfl, Nat.le_of_ble_eq_true rfl⟩ (fun H locs hw hW hS => ?_)
  refine lv_aload_n hx hb dX8_setRole_96 rfl (lv_at hl 0 rfl) ?_
  refine gk_get hx hb hts iwX8 hown hK.1 (gk_o0 hW) rfl 0 (by decide) (hts _ fl_X8_10) (fun _ h9 => h9) rfl dX8_setRole_97 ?_
  refine gk_getN hx hb hts iwX4 hown hK.1 (gk_o1 hW) rfl 0 (by decide) (gk_nw hK nf_X8_45) (fun _ h9 => h9) rfl dX8_setRole_100 ?_
  refine gk_getN hx hb hts iwX6 hown hK.1 (gk_o2 hW) rfl 3 (by decide) (gk_nw hK nf_X8_95) (fun _ h9 => h9) rfl dX8_setRole_103 ?_
  refine lv_iload_n hx hb dX8_setRole_106 rfl (lv_at hl 1 rfl) ?_
  refine lv_iload hx hb dX8_setRole_107 (lv_at hl 4 rfl) ?_
  refine gk_callVv ⟨hx, hb, hml, hown, hts⟩ (c_X2_put l D cI cZ cG cL ad (σ := σ) (r := 2) (i := x1) (x := x5) (by decide)) (cwV 2 hts (gk_gV ml_X8_107 im_X2_put se_X2_put in_X2 co_X2_put) rfl rfl rfl (by decide +kernel) ⟨Nat.le_of_ble_eq_true rfl, Nat.le_of_ble_eq_true rfl⟩) (gk_recv hK.1 (gk_or hW (r := 2) (by decide)) rfl) hW hK hS rfl hl.1 (rest := []) rfl (lv_room (Nat.le_of_ble_eq_true rfl)) dX8_setRole_109 ⟨Nat.le_of_ble_eq_true rfl, Nat.le_of_ble_eq_true rfl⟩ (fun u H locs hq hW _ hS => ?_)
  rw [hq] at hW
  refine lv_iload hx hb dX8_setRole_112 (lv_at hl 3 rfl) ?_
  refine lv_iload_n hx hb dX8_setRole_114 rfl (lv_at hl 2 rfl) ?_
  refine gk_callSi ⟨hx, hb, hml, hown, hts⟩ (c_X8_isIn l hw) (va_cwS 2 hts (gk_gS ml_X8_110 st_X8_isIn in_X8 co_X8_isIn) rfl rfl rfl (by decide +kernel) ⟨Nat.le_of_ble_eq_true rfl, Nat.le_of_ble_eq_true rfl⟩) hS rfl hl.1 (rest := []) rfl (lv_room (Nat.le_of_ble_eq_true rfl)) dX8_setRole_115 ⟨Nat.le_of_ble_eq_true rfl, Nat.le_of_ble_eq_true rfl⟩ (fun r115 H locs hw _ hk hS => ?_)
  have hW := hW.kept (fun k hk9 => hk _ (hW.lt hk9))
  obtain ⟨hz, hw⟩ := hw
  refine W.widen (k := 2) (n := 12) (Nat.le_of_ble_eq_true rfl) (Nat.le_of_ble_eq_true rfl) ?_
  refine vx_ret ?_
  exact gk_retz C0 hz hw hW hS dX8_setRole_118
set_option maxHeartbeats 4000000 in
set_option maxRecDepth 100000 in
theorem tJ_X8_setRole_61 {p : Program} {l : Launch} {e : Env} {s : State} {m : MethodId} {args : Array Value} {below : List Frame} {meth : Method} {c : Code} {D : va_G} {cI cZ cG cL : ClassId} {ad : Nat → Nat} (C0 : gk_F p s m args meth c cX8_setRole 6 (some .boolean) RX8) (hK : gk_K D cI cZ cG cL s) (ht : ∀ x ∈ c.exceptionTable.toList, False) (hfl : l.stackTraces = false) {q1 q2 q3 : Nat} (hY : gk_Y q1 q2 q3 (gk_A ad s.heap.size) s s.heap) {T : String → gk_C → Prop} {Q : Int32 → gk_C → Prop} : ∀ (σ : gk_C) (x1 : Int32) (x2 : Int32) (x4 : Int32) (t0 : Int32), wJ_X8_setRole_61 T Q σ x1 x2 x4 t0 → ∀ (H : Heap) (locs : List Loc), gk_W D cI ad σ H → va_S (gk_A ad s.heap.size) s.heap H locs → ∀ (ls : Array Slot), lv_has ls 6 [(0, .ref (ad 0)), (1, .int x1), (2, .int x2), (4, .int x4)] → W p l e rmX8_setRole s m args below meth c H locs 1 6 (vx_MQ below (va_Qi (fun r u => Q r u) (gk_B D cI ad) (gk_A ad s.heap.size)) (gk_XT D cI ad T s.heap.size) args s 2 12 (gk_A ad s.heap.size)) (F0 m 61 ls [.int t0]) := by
  obtain ⟨hx, hb, hml, hown, hts, hr, hlocks⟩ := id C0
  intro σ x1 x2 x4 t0 hw H locs hW hS ls hl
  refine lv_istore (lv' := [(5, .int t0), (0, .ref (ad 0)), (1, .int x1), (2, .int x2), (4, .int x4)]) hx hb dX8_setRole_61 hl (by decide) rfl (fun ls hl => ?_)
  refine lv_aload_n hx hb dX8_setRole_63 rfl (lv_at hl 1 rfl) ?_
  refine gk_get hx hb hts iwX8 hown hK.1 (gk_o0 hW) rfl 0 (by decide) (hts _ fl_X8_10) (fun _ h9 => h9) rfl dX8_setRole_64 ?_
  refine gk_getN hx hb hts iwX4 hown hK.1 (gk_o1 hW) rfl 1 (by decide) (gk_nw hK nf_X8_62) (fun _ h9 => h9) rfl dX8_setRole_67 ?_
  refine lv_aload_n hx hb dX8_setRole_70 rfl (lv_at hl 1 rfl) ?_
  refine gk_get hx hb hts iwX8 hown hK.1 (gk_o0 hW) rfl 0 (by decide) (hts _ fl_X8_10) (fun _ h9 => h9) rfl dX8_setRole_71 ?_
  refine gk_getN hx hb hts iwX4 hown hK.1 (gk_o1 hW) rfl 1 (by decide) (gk_nw hK nf_X8_62) (fun _ h9 => h9) rfl dX8_setRole_74 ?_
  refine lv_iload hx hb dX8_setRole_77 (lv_at hl 0 rfl) ?_
  refine gk_callRi ⟨hx, hb, hml, hown, hts⟩ (c_X1_hadWith l D cI cZ cG cL ad hw) (cwV 1 hts (gk_gV ml_X8_101 im_X1_hadWith se_X1_hadWith in_X1 co_X1_hadWith) rfl rfl rfl (by decide +kernel) ⟨Nat.le_of_ble_eq_true rfl, Nat.le_of_ble_eq_true rfl⟩) (gk_recv hK.1 (gk_o3 hW) rfl) hW hK hS rfl hl.1 (rest := [.ref (ad 3)]) rfl (lv_room (Nat.le_of_ble_eq_true rfl)) dX8_setRole_79 ⟨Nat.le_of_ble_eq_true rfl, Nat.le_of_ble_eq_true rfl⟩ (fun r79 H locs hw hW _ hS => ?_)
  refine gk_callRi ⟨hx, hb, hml, hown, hts⟩ (c_X1_isSplit l D cI cZ cG cL ad hw) (cwV 1 hts (gk_gV ml_X8_104 im_X1_isSplit se_X1_isSplit in_X1 co_X1_isSplit) rfl rfl rfl (by decide +kernel) ⟨Nat.le_of_ble_eq_true rfl, Nat.le_of_ble_eq_true rfl⟩) (gk_recv hK.1 (gk_o3 hW) rfl) hW hK hS rfl hl.1 (rest := []) rfl (lv_room (Nat.le_of_ble_eq_true rfl)) dX8_setRole_82 ⟨Nat.le_of_ble_eq_true rfl, Nat.le_of_ble_eq_true rfl⟩ (fun r82 H locs hw hW _ hS => ?_)
  refine lv_if_ne (tgt := 92) hx hb dX8_setRole_85 (by decide) (fun c85 => ?_) (fun c85 => ?_)
  · have hw := hw.1 c85
    refine lv_iconst (v := 0) hx hb dX8_setRole_92 (by decide) ?_
    refine tJ_X8_setRole_93 C0 hK ht hfl hY  σ x1 x2 x4 t0 0 hw _ _ hW hS _ (lv_sub hl [1, 2, 3, 4, 0] rfl)
  · have hw := hw.2 c85
    refine lv_iconst (v := 1) hx hb dX8_setRole_88 (by decide) ?_
    refine lv_goto (tgt := 93) hx hb dX8_setRole_89 (by decide) ?_
    refine tJ_X8_setRole_93 C0 hK ht hfl hY  σ x1 x2 x4 t0 1 hw _ _ hW hS _ (lv_sub hl [1, 2, 3, 4, 0] rfl)
set_option maxHeartbeats 4000000 in
set_option maxRecDepth 100000 in
theorem tJ_X8_setRole_21 {p : Program} {l : Launch} {e : Env} {s : State} {m : MethodId} {args : Array Value} {below : List Frame} {meth : Method} {c : Code} {D : va_G} {cI cZ cG cL : ClassId} {ad : Nat → Nat} (C0 : gk_F p s m args meth c cX8_setRole 6 (some .boolean) RX8) (hK : gk_K D cI cZ cG cL s) (ht : ∀ x ∈ c.exceptionTable.toList, False) (hfl : l.stackTraces = false) {q1 q2 q3 : Nat} (hY : gk_Y q1 q2 q3 (gk_A ad s.heap.size) s s.heap) {T : String → gk_C → Prop} {Q : Int32 → gk_C → Prop} : ∀ (σ : gk_C) (x1 : Int32) (x2 : Int32) (x3 : Int32) (t0 : Int32), wJ_X8_setRole_21 T Q σ x1 x2 x3 t0 → ∀ (H : Heap) (locs : List Loc), gk_W D cI ad σ H → va_S (gk_A ad s.heap.size) s.heap H locs → ∀ (ls : Array Slot), lv_has ls 6 [(0, .ref (ad 0)), (1, .int x1), (2, .int x2), (3, .int x3)] → W p l e rmX8_setRole s m args below meth c H locs 0 0 (vx_MQ below (va_Qi (fun r u => Q r u) (gk_B D cI ad) (gk_A ad s.heap.size)) (gk_XT D cI ad T s.heap.size) args s 2 12 (gk_A ad s.heap.size)) (F0 m 21 ls [.int t0]) := by
  obtain ⟨hx, hb, hml, hown, hts, hr, hlocks⟩ := id C0
  intro σ x1 x2 x3 t0 hw H locs hW hS ls hl
  refine gk_chk (T := T) C0 ht (c_X8_checkThere l hfl hw) (va_cwS 1 hts (gk_gS ml_X8_76 st_X8_checkThere in_X8 co_X8_checkThere) rfl rfl rfl (by decide +kernel) ⟨Nat.le_of_ble_eq_true rfl, Nat.le_of_ble_eq_true rfl⟩) hW hY hS hl.1 (rest := []) (lv_room (Nat.le_of_ble_eq_true rfl)) dX8_setRole_21 ⟨Nat.le_of_ble_eq_true rfl, Nat.le_of_ble_eq_true rfl⟩ ⟨Nat.le_of_ble_eq_true rfl, Nat.le_of_ble_eq_true rfl⟩ (fun H locs hw hW hS => ?_)
  refine lv_aload_n hx hb dX8_setRole_24 rfl (lv_at hl 0 rfl) ?_
  refine gk_get hx hb hts iwX8 hown hK.1 (gk_o0 hW) rfl 0 (by decide) (hts _ fl_X8_10) (fun _ h9 => h9) rfl dX8_setRole_25 ?_
  refine gk_getN hx hb hts iwX4 hown hK.1 (gk_o1 hW) rfl 0 (by decide) (gk_nw hK nf_X8_45) (fun _ h9 => h9) rfl dX8_setRole_28 ?_
  refine gk_getN hx hb hts iwX6 hown hK.1 (gk_o2 hW) rfl 3 (by decide) (gk_nw hK nf_X8_95) (fun _ h9 => h9) rfl dX8_setRole_31 ?_
  refine lv_iload_n hx hb dX8_setRole_34 rfl (lv_at hl 1 rfl) ?_
  refine gk_callRi ⟨hx, hb, hml, hown, hts⟩ (c_X2_at l D cI cZ cG cL ad (σ := σ) (r := 2) (i := x1) (by decide)) (cwV 1 hts (gk_gV ml_X8_98 im_X2_at se_X2_at in_X2 co_X2_at) rfl rfl rfl (by decide +kernel) ⟨Nat.le_of_ble_eq_true rfl, Nat.le_of_ble_eq_true rfl⟩) (gk_recv hK.1 (gk_or hW (r := 2) (by decide)) rfl) hW hK hS rfl hl.1 (rest := []) rfl (lv_room (Nat.le_of_ble_eq_true rfl)) dX8_setRole_35 ⟨Nat.le_of_ble_eq_true rfl, Nat.le_of_ble_eq_true rfl⟩ (fun r35 H locs hq hW _ hS => ?_)
  obtain rfl := hq
  refine lv_istore (lv' := [(4, .int (gk_at σ 2 x1)), (0, .ref (ad 0)), (1, .int x1), (2, .int x2), (3, .int x3)]) hx hb dX8_setRole_38 hl (by decide) rfl (fun ls hl => ?_)
  refine lv_iload_n hx hb dX8_setRole_40 rfl (lv_at hl 4 rfl) ?_
  refine lv_if_eq (tgt := 53) hx hb dX8_setRole_41 (by decide) (fun c41 => ?_) (fun c41 => ?_)
  · have hw := hw.1 c41
    refine lv_iload hx hb dX8_setRole_53 (lv_at hl 0 rfl) ?_
    refine lv_iconst (v := 1) hx hb dX8_setRole_55 (by decide) ?_
    refine lv_iload_n hx hb dX8_setRole_56 rfl (lv_at hl 3 rfl) ?_
    refine lv_ishl hx hb dX8_setRole_57 ?_
    refine lv_iconst (v := (-1)) hx hb dX8_setRole_58 (by decide) ?_
    refine lv_ixor hx hb dX8_setRole_59 ?_
    refine lv_iand hx hb dX8_setRole_60 ?_
    refine tJ_X8_setRole_61 C0 hK ht hfl hY  σ x1 x2 (gk_at σ 2 x1) ((gk_at σ 2 x1) &&& ((1 <<< (x2 &&& 31)) ^^^ (-1))) hw _ _ hW hS _ (lv_sub hl [1, 2, 3, 0] rfl)
  · have hw := hw.2 c41
    refine lv_iload hx hb dX8_setRole_44 (lv_at hl 0 rfl) ?_
    refine lv_iconst (v := 1) hx hb dX8_setRole_46 (by decide) ?_
    refine lv_iload_n hx hb dX8_setRole_47 rfl (lv_at hl 3 rfl) ?_
    refine lv_ishl hx hb dX8_setRole_48 ?_
    refine lv_ior hx hb dX8_setRole_49 ?_
    refine lv_goto (tgt := 61) hx hb dX8_setRole_50 (by decide) ?_
    refine tJ_X8_setRole_61 C0 hK ht hfl hY  σ x1 x2 (gk_at σ 2 x1) ((gk_at σ 2 x1) ||| (1 <<< (x2 &&& 31))) hw _ _ hW hS _ (lv_sub hl [1, 2, 3, 0] rfl)
set_option maxHeartbeats 4000000 in
set_option maxRecDepth 100000 in
theorem c_X8_setRole (l : Launch) (hfl : l.stackTraces = false) (D : va_G) (cI cZ cG cL : ClassId) (ad : Nat → Nat) (q1 q2 q3 : Nat) {σ : gk_C} {a0 : Int32} {a1 : Int32} {a2 : Int32} {T : String → gk_C → Prop} {Q : Int32 → gk_C → Prop} {sz : Nat} (hw : w_X8_setRole σ a0 a1 a2 T Q) : vx_Met l yX8_setRole wsX8_setRole rmX8_setRole (gk_Pt D cI cZ cG cL ad q1 q2 q3 [.ref (ad 0), .int a0, .int a1, .int a2] sz σ) (va_Qi (fun r u => Q r u) (gk_B D cI ad) (gk_A ad sz)) (gk_XT D cI ad T sz) 2 12 (gk_A ad sz) := by
  refine vx_ofW (cc := cX8_setRole) (maxL := 6) (ret := (some .boolean)) (by decide) rfl ?_
  intro p e s m args below meth c s₁ B hml0 ht hv0
  obtain ⟨rfl, hsz, hW, hK, hY⟩ := hv0
  subst hsz
  have C0 : gk_F p s m ([.ref (ad 0), .int a0, .int a1, .int a2] : List Value).toArray meth c cX8_setRole 6 (some .boolean) RX8 := ⟨B.exec, B.bytes, hml0, findClass_of_methodNamed B.named, fun w hw => atoms_spec (ws := wsX8_setRole) B.pre w (List.mem_cons_of_mem _ hw), B.returns, B.notSynchronized⟩
  obtain ⟨hx, hb, hml, hown, hts, hr, hlocks⟩ := id C0
  have hS : va_S (gk_A ad s.heap.size) s.heap s.heap [] := va_S.rf
  have hl := lv_entry ([.ref (ad 0), .int a0, .int a1, .int a2]) (n := 6) (Nat.le_of_ble_eq_true rfl)
  rw [lg_entry_eq]
  generalize (lg_sl ([.ref (ad 0), .int a0, .int a1, .int a2]) ++ List.replicate (6 - (lg_sl ([.ref (ad 0), .int a0, .int a1, .int a2])).length) Slot.unset).toArray = ls at hl ⊢
  have hl : lv_has ls 6 [(0, .ref (ad 0)), (1, .int a0), (2, .int a1), (3, .int a2)] := hl
  show W p l e rmX8_setRole s m _ below meth c s.heap [] 0 0 _ _
  refine lv_aload_n hx hb dX8_setRole_0 rfl (lv_at hl 0 rfl) ?_
  refine lv_iload_n hx hb dX8_setRole_1 rfl (lv_at hl 1 rfl) ?_
  refine gk_callRi ⟨hx, hb, hml, hown, hts⟩ (c_X8_isUser l D cI cZ cG cL ad hw) (cwV 1 hts (gk_gV ml_X8_89 im_X8_isUser se_X8_isUser in_X8 co_X8_isUser) rfl rfl rfl (by decide +kernel) ⟨Nat.le_of_ble_eq_true rfl, Nat.le_of_ble_eq_true rfl⟩) (gk_recv hK.1 (gk_o0 hW) rfl) hW hK hS rfl hl.1 (rest := []) rfl (lv_room (Nat.le_of_ble_eq_true rfl)) dX8_setRole_2 ⟨Nat.le_of_ble_eq_true rfl, Nat.le_of_ble_eq_true rfl⟩ (fun r2 H locs hw hW _ hS => ?_)
  refine lv_if_eq (tgt := 20) hx hb dX8_setRole_5 (by decide) (fun c5 => ?_) (fun c5 => ?_)
  · have hw := hw.1 c5
    refine tJ_X8_setRole_20 C0 hK ht hfl hY (hk21 := ?_) σ a0 a1 a2 hw _ _ hW hS _ hl
    · intro σ x1 x2 x3 t0 hw H locs hW hS ls hl
      refine tJ_X8_setRole_21 C0 hK ht hfl hY  σ x1 x2 x3 t0 hw _ _ hW hS _ hl
  · have hw := hw.2 c5
    refine lv_aload_n hx hb dX8_setRole_8 rfl (lv_at hl 0 rfl) ?_
    refine lv_iload_n hx hb dX8_setRole_9 rfl (lv_at hl 2 rfl) ?_
    refine gk_callRi ⟨hx, hb, hml, hown, hts⟩ (c_X8_isRole l D cI cZ cG cL ad hw) (cwV 1 hts (gk_gV ml_X8_92 im_X8_isRole se_X8_isRole in_X8 co_X8_isRole) rfl rfl rfl (by decide +kernel) ⟨Nat.le_of_ble_eq_true rfl, Nat.le_of_ble_eq_true rfl⟩) (gk_recv hK.1 (gk_o0 hW) rfl) hW hK hS rfl hl.1 (rest := []) rfl (lv_room (Nat.le_of_ble_eq_true rfl)) dX8_setRole_10 ⟨Nat.le_of_ble_eq_true rfl, Nat.le_of_ble_eq_true rfl⟩ (fun r10 H locs hw hW _ hS => ?_)
    refine lv_if_eq (tgt := 20) hx hb dX8_setRole_13 (by decide) (fun c13 => ?_) (fun c13 => ?_)
    · have hw := hw.1 c13
      refine tJ_X8_setRole_20 C0 hK ht hfl hY (hk21 := ?_) σ a0 a1 a2 hw _ _ hW hS _ hl
      · intro σ x1 x2 x3 t0 hw H locs hW hS ls hl
        refine tJ_X8_setRole_21 C0 hK ht hfl hY  σ x1 x2 x3 t0 hw _ _ hW hS _ hl
    · have hw := hw.2 c13
      refine lv_iconst (v := 1) hx hb dX8_setRole_16 (by decide) ?_
      refine lv_goto (tgt := 21) hx hb dX8_setRole_17 (by decide) ?_
      refine tJ_X8_setRole_21 C0 hK ht hfl hY  σ a0 a1 a2 1 hw _ _ hW hS _ hl
def wJ_X8_setHolds_20 (T : String → gk_C → Prop) (k21 : gk_C → Int32 → Int32 → Int32 → Int32 → Prop) (σ : gk_C) (x1 : Int32) (x2 : Int32) (x3 : Int32) : Prop := (k21 σ x1 x2 x3 0)
def wJ_X8_setHolds_57 (T : String → gk_C → Prop) (k58 : gk_C → Int32 → Int32 → Int32 → Int32 → Prop) (σ : gk_C) (x1 : Int32) (x2 : Int32) (x3 : Int32) : Prop := (k58 σ x1 x2 x3 0)
def wJ_X8_setHolds_74 (T : String → gk_C → Prop) (k79 : gk_C → Int32 → Int32 → Int32 → Int32 → Prop) (σ : gk_C) (x1 : Int32) (x2 : Int32) (x3 : Int32) : Prop := (k79 σ x1 x2 x3 1)
def wJ_X8_setHolds_130 (T : String → gk_C → Prop) (Q : Int32 → gk_C → Prop) (σ : gk_C) (x2 : Int32) (x4 : Int32) (t1 : Int32) (t2 : Int32) : Prop := (w_X8_isIn x4 x2 (fun r136 => gk_z r136 ∧ Q r136 (gk_put σ 4 t1 t2)))
def wJ_X8_setHolds_79 (T : String → gk_C → Prop) (Q : Int32 → gk_C → Prop) (σ : gk_C) (x1 : Int32) (x2 : Int32) (x3 : Int32) (t0 : Int32) : Prop := (w_X8_checkState t0 (fun E => T E σ) (((x3 = 0) → (wJ_X8_setHolds_130 T Q σ x2 (gk_at σ 4 x1) x1 ((gk_at σ 4 x1) &&& ((1 <<< (x2 &&& 31)) ^^^ (-1))))) ∧ ((¬ x3 = 0) → (wJ_X8_setHolds_130 T Q σ x2 (gk_at σ 4 x1) x1 ((gk_at σ 4 x1) ||| (1 <<< (x2 &&& 31)))))))
def wJ_X8_setHolds_58 (T : String → gk_C → Prop) (Q : Int32 → gk_C → Prop) (σ : gk_C) (x1 : Int32) (x2 : Int32) (x3 : Int32) (t0 : Int32) : Prop := (w_X8_checkArguments t0 (fun E => T E σ) (((x3 = 0) → (wJ_X8_setHolds_74 T (fun σ x1 x2 x3 t0 => (wJ_X8_setHolds_79 T Q σ x1 x2 x3 t0)) σ x1 x2 x3)) ∧ ((¬ x3 = 0) → (w_X8_wouldSplitSomeone σ x1 x2 (fun r68 σ68 => ((¬ r68 = 0) → (wJ_X8_setHolds_79 T Q σ68 x1 x2 x3 0)) ∧ ((r68 = 0) → (wJ_X8_setHolds_74 T (fun σ x1 x2 x3 t0 => (wJ_X8_setHolds_79 T Q σ x1 x2 x3 t0)) σ68 x1 x2 x3)))))))
def wJ_X8_setHolds_53 (T : String → gk_C → Prop) (k58 : gk_C → Int32 → Int32 → Int32 → Int32 → Prop) (σ : gk_C) (x1 : Int32) (x2 : Int32) (x3 : Int32) : Prop := (k58 σ x1 x2 x3 1)
def wJ_X8_setHolds_21 (T : String → gk_C → Prop) (Q : Int32 → gk_C → Prop) (σ : gk_C) (x1 : Int32) (x2 : Int32) (x3 : Int32) (t0 : Int32) : Prop := (w_X8_checkThere t0 (fun E => T E σ) (((x1 = x2) → (wJ_X8_setHolds_57 T (fun σ x1 x2 x3 t0 => (wJ_X8_setHolds_58 T Q σ x1 x2 x3 t0)) σ x1 x2 x3)) ∧ ((¬ x1 = x2) → (((x3 = 0) → (wJ_X8_setHolds_53 T (fun σ x1 x2 x3 t0 => (wJ_X8_setHolds_58 T Q σ x1 x2 x3 t0)) σ x1 x2 x3)) ∧ ((¬ x3 = 0) → (w_X1_hadWith σ (1 <<< (x2 &&& 31)) (fun r43 => w_X8_isIn r43 x1 (fun r47 => ((¬ r47 = 0) → (wJ_X8_setHolds_57 T (fun σ x1 x2 x3 t0 => (wJ_X8_setHolds_58 T Q σ x1 x2 x3 t0)) σ x1 x2 x3)) ∧ ((r47 = 0) → (wJ_X8_setHolds_53 T (fun σ x1 x2 x3 t0 => (wJ_X8_setHolds_58 T Q σ x1 x2 x3 t0)) σ x1 x2 x3))))))))))
def w_X8_setHolds (σ : gk_C) (a0 : Int32) (a1 : Int32) (a2 : Int32) (T : String → gk_C → Prop) (Q : Int32 → gk_C → Prop) : Prop := (w_X8_isRole σ a0 (fun r2 => ((r2 = 0) → (wJ_X8_setHolds_20 T (fun σ x1 x2 x3 t0 => (wJ_X8_setHolds_21 T Q σ x1 x2 x3 t0)) σ a0 a1 a2)) ∧ ((¬ r2 = 0) → (w_X8_isRole σ a1 (fun r10 => ((r10 = 0) → (wJ_X8_setHolds_20 T (fun σ x1 x2 x3 t0 => (wJ_X8_setHolds_21 T Q σ x1 x2 x3 t0)) σ a0 a1 a2)) ∧ ((¬ r10 = 0) → (wJ_X8_setHolds_21 T Q σ a0 a1 a2 1)))))))
abbrev rmX8_setHolds : Room := { frames := 7, cells := 3, slots := 18, locals := 102 }
set_option maxHeartbeats 4000000 in
set_option maxRecDepth 100000 in
theorem tJ_X8_setHolds_20 {p : Program} {l : Launch} {e : Env} {s : State} {m : MethodId} {args : Array Value} {below : List Frame} {meth : Method} {c : Code} {D : va_G} {cI cZ cG cL : ClassId} {ad : Nat → Nat} (C0 : gk_F p s m args meth c cX8_setHolds 5 (some .boolean) RX8) (hK : gk_K D cI cZ cG cL s) (ht : ∀ x ∈ c.exceptionTable.toList, False) (hfl : l.stackTraces = false) {q1 q2 q3 : Nat} (hY : gk_Y q1 q2 q3 (gk_A ad s.heap.size) s s.heap) {T : String → gk_C → Prop} {Q : Int32 → gk_C → Prop} {k21 : gk_C → Int32 → Int32 → Int32 → Int32 → Prop} (hk21 : ∀ (σ : gk_C) (x1 : Int32) (x2 : Int32) (x3 : Int32) (t0 : Int32), k21 σ x1 x2 x3 t0 → ∀ (H : Heap) (locs : List Loc), gk_W D cI ad σ H → va_S (gk_A ad s.heap.size) s.heap H locs → ∀ (ls : Array Slot), lv_has ls 5 [(0, .ref (ad 0)), (1, .int x1), (2, .int x2), (3, .int x3)] → W p l e rmX8_setHolds s m args below meth c H locs 0 0 (vx_MQ below (va_Qi (fun r u => Q r u) (gk_B D cI ad) (gk_A ad s.heap.size)) (gk_XT D cI ad T s.heap.size) args s 3 18 (gk_A ad s.heap.size)) (F0 m 21 ls [.int t0])) : ∀ (σ : gk_C) (x1 : Int32) (x2 : Int32) (x3 : Int32), wJ_X8_setHolds_20 T k21 σ x1 x2 x3 → ∀ (H : Heap) (locs : List Loc), gk_W D cI ad σ H → va_S (gk_A ad s.heap.size) s.heap H locs → ∀ (ls : Array Slot), lv_has ls 5 [(0, .ref (ad 0)), (1, .int x1), (2, .int x2), (3, .int x3)] → W p l e rmX8_setHolds s m args below meth c H locs 0 0 (vx_MQ below (va_Qi (fun r u => Q r u) (gk_B D cI ad) (gk_A ad s.heap.size)) (gk_XT D cI ad T s.heap.size) args s 3 18 (gk_A ad s.heap.size)) (F0 m 20 ls []) := by
  obtain ⟨hx, hb, hml, hown, hts, hr, hlocks⟩ := id C0
  intro σ x1 x2 x3 hw H locs hW hS ls hl
  refine lv_iconst (v := 0) hx hb dX8_setHolds_20 (by decide) ?_
  exact hk21 σ x1 x2 x3 0 hw _ _ hW hS _ hl
set_option maxHeartbeats 4000000 in
set_option maxRecDepth 100000 in
theorem tJ_X8_setHolds_57 {p : Program} {l : Launch} {e : Env} {s : State} {m : MethodId} {args : Array Value} {below : List Frame} {meth : Method} {c : Code} {D : va_G} {cI cZ cG cL : ClassId} {ad : Nat → Nat} (C0 : gk_F p s m args meth c cX8_setHolds 5 (some .boolean) RX8) (hK : gk_K D cI cZ cG cL s) (ht : ∀ x ∈ c.exceptionTable.toList, False) (hfl : l.stackTraces = false) {q1 q2 q3 : Nat} (hY : gk_Y q1 q2 q3 (gk_A ad s.heap.size) s s.heap) {T : String → gk_C → Prop} {Q : Int32 → gk_C → Prop} {k58 : gk_C → Int32 → Int32 → Int32 → Int32 → Prop} (hk58 : ∀ (σ : gk_C) (x1 : Int32) (x2 : Int32) (x3 : Int32) (t0 : Int32), k58 σ x1 x2 x3 t0 → ∀ (H : Heap) (locs : List Loc), gk_W D cI ad σ H → va_S (gk_A ad s.heap.size) s.heap H locs → ∀ (ls : Array Slot), lv_has ls 5 [(0, .ref (ad 0)), (1, .int x1), (2, .int x2), (3, .int x3)] → W p l e rmX8_setHolds s m args below meth c H locs 1 6 (vx_MQ below (va_Qi (fun r u => Q r u) (gk_B D cI ad) (gk_A ad s.heap.size)) (gk_XT D cI ad T s.heap.size) args s 3 18 (gk_A ad s.heap.size)) (F0 m 58 ls [.int t0])) : ∀ (σ : gk_C) (x1 : Int32) (x2 : Int32) (x3 : Int32), wJ_X8_setHolds_57 T k58 σ x1 x2 x3 → ∀ (H : Heap) (locs : List Loc), gk_W D cI ad σ H → va_S (gk_A ad s.heap.size) s.heap H locs → ∀ (ls : Array Slot), lv_has ls 5 [(0, .ref (ad 0)), (1, .int x1), (2, .int x2), (3, .int x3)] → W p l e rmX8_setHolds s m args below meth c H locs 1 6 (vx_MQ below (va_Qi (fun r u => Q r u) (gk_B D cI ad) (gk_A ad s.heap.size)) (gk_XT D cI ad T s.heap.size) args s 3 18 (gk_A ad s.heap.size)) (F0 m 57 ls []) := by
  obtain ⟨hx, hb, hml, hown, hts, hr, hlocks⟩ := id C0
  intro σ x1 x2 x3 hw H locs hW hS ls hl
  refine lv_iconst (v := 0) hx hb dX8_setHolds_57 (by decide) ?_
  exact hk58 σ x1 x2 x3 0 hw _ _ hW hS _ hl
set_option maxHeartbeats 4000000 in
set_option maxRecDepth 100000 in
theorem tJ_X8_setHolds_74 {p : Program} {l : Launch} {e : Env} {s : State} {m : MethodId} {args : Array Value} {below : List Frame} {meth : Method} {c : Code} {D : va_G} {cI cZ cG cL : ClassId} {ad : Nat → Nat} (C0 : gk_F p s m args meth c cX8_setHolds 5 (some .boolean) RX8) (hK : gk_K D cI cZ cG cL s) (ht : ∀ x ∈ c.exceptionTable.toList, False) (hfl : l.stackTraces = false) {q1 q2 q3 : Nat} (hY : gk_Y q1 q2 q3 (gk_A ad s.heap.size) s s.heap) {T : String → gk_C → Prop} {Q : Int32 → gk_C → Prop} {k79 : gk_C → Int32 → Int32 → Int32 → Int32 → Prop} (hk79 : ∀ (σ : gk_C) (x1 : Int32) (x2 : Int32) (x3 : Int32) (t0 : Int32), k79 σ x1 x2 x3 t0 → ∀ (H : Heap) (locs : List Loc), gk_W D cI ad σ H → va_S (gk_A ad s.heap.size) s.heap H locs → ∀ (ls : Array Slot), lv_has ls 5 [(0, .ref (ad 0)), (1, .int x1), (2, .int x2), (3, .int x3)] → W p l e rmX8_setHolds s m args below meth c H locs 2 12 (vx_MQ below (va_Qi (fun r u => Q r u) (gk_B D cI ad) (gk_A ad s.heap.size)) (gk_XT D cI ad T s.heap.size) args s 3 18 (gk_A ad s.heap.size)) (F0 m 79 ls [.int t0])) : ∀ (σ : gk_C) (x1 : Int32) (x2 : Int32) (x3 : Int32), wJ_X8_setHolds_74 T k79 σ x1 x2 x3 → ∀ (H : Heap) (locs : List Loc), gk_W D cI ad σ H → va_S (gk_A ad s.heap.size) s.heap H locs → ∀ (ls : Array Slot), lv_has ls 5 [(0, .ref (ad 0)), (1, .int x1), (2, .int x2), (3, .int x3)] → W p l e rmX8_setHolds s m args below meth c H locs 2 12 (vx_MQ below (va_Qi (fun r u => Q r u) (gk_B D cI ad) (gk_A ad s.heap.size)) (gk_XT D cI ad T s.heap.size) args s 3 18 (gk_A ad s.heap.size)) (F0 m 74 ls []) := by
  obtain ⟨hx, hb, hml, hown, hts, hr, hlocks⟩ := id C0
  intro σ x1 x2 x3 hw H locs hW hS ls hl
  refine lv_iconst (v := 1) hx hb dX8_setHolds_74 (by decide) ?_
  refine lv_goto (tgt := 79) hx hb dX8_setHolds_75 (by decide) ?_
  exact hk79 σ x1 x2 x3 1 hw _ _ hW hS _ hl
set_option maxHeartbeats 4000000 in
set_option maxRecDepth 100000 in
theorem tJ_X8_setHolds_130 {p : Program} {l : Launch} {e : Env} {s : State} {m : MethodId} {args : Array Value} {below : List Frame} {meth : Method} {c : Code} {D : va_G} {cI cZ cG cL : ClassId} {ad : Nat → Nat} (C0 : gk_F p s m args meth c cX8_setHolds 5 (some .boolean) RX8) (hK : gk_K D cI cZ cG cL s) (ht : ∀ x ∈ c.exceptionTable.toList, False) (hfl : l.stackTraces = false) {q1 q2 q3 : Nat} (hY : gk_Y q1 q2 q3 (gk_A ad s.heap.size) s s.heap) {T : String → gk_C → Prop} {Q : Int32 → gk_C → Prop} : ∀ (σ : gk_C) (x2 : Int32) (x4 : Int32) (t1 : Int32) (t2 : Int32), wJ_X8_setHolds_130 T Q σ x2 x4 t1 t2 → ∀ (H : Heap) (locs : List Loc), gk_W D cI ad σ H → va_S (gk_A ad s.heap.size) s.heap H locs → ∀ (ls : Array Slot), lv_has ls 5 [(2, .int x2), (4, .int x4)] → W p l e rmX8_setHolds s m args below meth c H locs 3 18 (vx_MQ below (va_Qi (fun r u => Q r u) (gk_B D cI ad) (gk_A ad s.heap.size)) (gk_XT D cI ad T s.heap.size) args s 3 18 (gk_A ad s.heap.size)) (F0 m 130 ls [.int t2, .int t1, .ref (ad (9 + 4))]) := by
  obtain ⟨hx, hb, hml, hown, hts, hr, hlocks⟩ := id C0
  intro σ x2 x4 t1 t2 hw H locs hW hS ls hl
  refine gk_callVv ⟨hx, hb, hml, hown, hts⟩ (c_X2_put l D cI cZ cG cL ad (σ := σ) (r := 4) (i := t1) (x := t2) (by decide)) (cwV 2 hts (gk_gV ml_X8_107 im_X2_put se_X2_put in_X2 co_X2_put) rfl rfl rfl (by decide +kernel) ⟨Nat.le_of_ble_eq_true rfl, Nat.le_of_ble_eq_true rfl⟩) (gk_recv hK.1 (gk_or hW (r := 4) (by decide)) rfl) hW hK hS rfl hl.1 (rest := []) rfl (lv_room (Nat.le_of_ble_eq_true rfl)) dX8_setHolds_130 ⟨Nat.le_of_ble_eq_true rfl, Nat.le_of_ble_eq_true rfl⟩ (fun u H locs hq hW _ hS => ?_)
  rw [hq] at hW
  refine lv_iload hx hb dX8_setHolds_133 (lv_at hl 1 rfl) ?_
  refine lv_iload_n hx hb dX8_setHolds_135 rfl (lv_at hl 0 rfl) ?_
  refine gk_callSi ⟨hx, hb, hml, hown, hts⟩ (c_X8_isIn l hw) (va_cwS 2 hts (gk_gS ml_X8_110 st_X8_isIn in_X8 co_X8_isIn) rfl rfl rfl (by decide +kernel) ⟨Nat.le_of_ble_eq_true rfl, Nat.le_of_ble_eq_true rfl⟩) hS rfl hl.1 (rest := []) rfl (lv_room (Nat.le_of_ble_eq_true rfl)) dX8_setHolds_136 ⟨Nat.le_of_ble_eq_true rfl, Nat.le_of_ble_eq_true rfl⟩ (fun r136 H locs hw _ hk hS => ?_)
  have hW := hW.kept (fun k hk9 => hk _ (hW.lt hk9))
  obtain ⟨hz, hw⟩ := hw
  refine W.widen (k := 3) (n := 18) (Nat.le_of_ble_eq_true rfl) (Nat.le_of_ble_eq_true rfl) ?_
  refine vx_ret ?_
  exact gk_retz C0 hz hw hW hS dX8_setHolds_139
set_option maxHeartbeats 4000000 in
set_option maxRecDepth 100000 in
theorem tJ_X8_setHolds_79 {p : Program} {l : Launch} {e : Env} {s : State} {m : MethodId} {args : Array Value} {below : List Frame} {meth : Method} {c : Code} {D : va_G} {cI cZ cG cL : ClassId} {ad : Nat → Nat} (C0 : gk_F p s m args meth c cX8_setHolds 5 (some .boolean) RX8) (hK : gk_K D cI cZ cG cL s) (ht : ∀ x ∈ c.exceptionTable.toList, False) (hfl : l.stackTraces = false) {q1 q2 q3 : Nat} (hY : gk_Y q1 q2 q3 (gk_A ad s.heap.size) s s.heap) {T : String → gk_C → Prop} {Q : Int32 → gk_C → Prop} : ∀ (σ : gk_C) (x1 : Int32) (x2 : Int32) (x3 : Int32) (t0 : Int32), wJ_X8_setHolds_79 T Q σ x1 x2 x3 t0 → ∀ (H : Heap) (locs : List Loc), gk_W D cI ad σ H → va_S (gk_A ad s.heap.size) s.heap H locs → ∀ (ls : Array Slot), lv_has ls 5 [(0, .ref (ad 0)), (1, .int x1), (2, .int x2), (3, .int x3)] → W p l e rmX8_setHolds s m args below meth c H locs 2 12 (vx_MQ below (va_Qi (fun r u => Q r u) (gk_B D cI ad) (gk_A ad s.heap.size)) (gk_XT D cI ad T s.heap.size) args s 3 18 (gk_A ad s.heap.size)) (F0 m 79 ls [.int t0]) := by
  obtain ⟨hx, hb, hml, hown, hts, hr, hlocks⟩ := id C0
  intro σ x1 x2 x3 t0 hw H locs hW hS ls hl
  refine gk_chk (T := T) C0 ht (c_X8_checkState l hfl hw) (va_cwS 1 hts (gk_gS ml_X8_55 st_X8_checkState in_X8 co_X8_checkState) rfl rfl rfl (by decide +kernel) ⟨Nat.le_of_ble_eq_true rfl, Nat.le_of_ble_eq_true rfl⟩) hW hY hS hl.1 (rest := []) (lv_room (Nat.le_of_ble_eq_true rfl)) dX8_setHolds_79 ⟨Nat.le_of_ble_eq_true rfl, Nat.le_of_ble_eq_true rfl⟩ ⟨Nat.le_of_ble_eq_true rfl, Nat.le_of_ble_eq_true rfl⟩ (fun H locs hw hW hS => ?_)
  refine lv_aload_n hx hb dX8_setHolds_82 rfl (lv_at hl 0 rfl) ?_
  refine gk_get hx hb hts iwX8 hown hK.1 (gk_o0 hW) rfl 0 (by decide) (hts _ fl_X8_10) (fun _ h9 => h9) rfl dX8_setHolds_83 ?_
  refine gk_getN hx hb hts iwX4 hown hK.1 (gk_o1 hW) rfl 1 (by decide) (gk_nw hK nf_X8_62) (fun _ h9 => h9) rfl dX8_setHolds_86 ?_
  refine gk_getN hx hb hts iwX1 hown hK.1 (gk_o3 hW) rfl 2 (by decide) (gk_nw hK nf_X8_116) (fun _ h9 => h9) rfl dX8_setHolds_89 ?_
  refine lv_iload_n hx hb dX8_setHolds_92 rfl (lv_at hl 1 rfl) ?_
  refine gk_callRi ⟨hx, hb, hml, hown, hts⟩ (c_X2_at l D cI cZ cG cL ad (σ := σ) (r := 4) (i := x1) (by decide)) (cwV 1 hts (gk_gV ml_X8_98 im_X2_at se_X2_at in_X2 co_X2_at) rfl rfl rfl (by decide +kernel) ⟨Nat.le_of_ble_eq_true rfl, Nat.le_of_ble_eq_true rfl⟩) (gk_recv hK.1 (gk_or hW (r := 4) (by decide)) rfl) hW hK hS rfl hl.1 (rest := []) rfl (lv_room (Nat.le_of_ble_eq_true rfl)) dX8_setHolds_93 ⟨Nat.le_of_ble_eq_true rfl, Nat.le_of_ble_eq_true rfl⟩ (fun r93 H locs hq hW _ hS => ?_)
  obtain rfl := hq
  refine lv_istore (lv' := [(4, .int (gk_at σ 4 x1)), (0, .ref (ad 0)), (1, .int x1), (2, .int x2), (3, .int x3)]) hx hb dX8_setHolds_96 hl (by decide) rfl (fun ls hl => ?_)
  refine lv_aload_n hx hb dX8_setHolds_98 rfl (lv_at hl 1 rfl) ?_
  refine gk_get hx hb hts iwX8 hown hK.1 (gk_o0 hW) rfl 0 (by decide) (hts _ fl_X8_10) (fun _ h9 => h9) rfl dX8_setHolds_99 ?_
  refine gk_getN hx hb hts iwX4 hown hK.1 (gk_o1 hW) rfl 1 (by decide) (gk_nw hK nf_X8_62) (fun _ h9 => h9) rfl dX8_setHolds_102 ?_
  refine gk_getN hx hb hts iwX1 hown hK.1 (gk_o3 hW) rfl 2 (by decide) (gk_nw hK nf_X8_116) (fun _ h9 => h9) rfl dX8_setHolds_105 ?_
  refine lv_iload_n hx hb dX8_setHolds_108 rfl (lv_at hl 2 rfl) ?_
  refine lv_iload_n hx hb dX8_setHolds_109 rfl (lv_at hl 4 rfl) ?_
  refine lv_if_eq (tgt := 122) hx hb dX8_setHolds_110 (by decide) (fun c110 => ?_) (fun c110 => ?_)
  · have hw := hw.1 c110
    refine lv_iload hx hb dX8_setHolds_122 (lv_at hl 0 rfl) ?_
    refine lv_iconst (v := 1) hx hb dX8_setHolds_124 (by decide) ?_
    refine lv_iload_n hx hb dX8_setHolds_125 rfl (lv_at hl 3 rfl) ?_
    refine lv_ishl hx hb dX8_setHolds_126 ?_
    refine lv_iconst (v := (-1)) hx hb dX8_setHolds_127 (by decide) ?_
    refine lv_ixor hx hb dX8_setHolds_128 ?_
    refine lv_iand hx hb dX8_setHolds_129 ?_
    refine tJ_X8_setHolds_130 C0 hK ht hfl hY  σ x2 (gk_at σ 4 x1) x1 ((gk_at σ 4 x1) &&& ((1 <<< (x2 &&& 31)) ^^^ (-1))) hw _ _ hW hS _ (lv_sub hl [3, 0] rfl)
  · have hw := hw.2 c110
    refine lv_iload hx hb dX8_setHolds_113 (lv_at hl 0 rfl) ?_
    refine lv_iconst (v := 1) hx hb dX8_setHolds_115 (by decide) ?_
    refine lv_iload_n hx hb dX8_setHolds_116 rfl (lv_at hl 3 rfl) ?_
    refine lv_ishl hx hb dX8_setHolds_117 ?_
    refine lv_ior hx hb dX8_setHolds_118 ?_
    refine lv_goto (tgt := 130) hx hb dX8_setHolds_119 (by decide) ?_
    refine tJ_X8_setHolds_130 C0 hK ht hfl hY  σ x2 (gk_at σ 4 x1) x1 ((gk_at σ 4 x1) ||| (1 <<< (x2 &&& 31))) hw _ _ hW hS _ (lv_sub hl [3, 0] rfl)
set_option maxHeartbeats 4000000 in
set_option maxRecDepth 100000 in
theorem tJ_X8_setHolds_58 {p : Program} {l : Launch} {e : Env} {s : State} {m : MethodId} {args : Array Value} {below : List Frame} {meth : Method} {c : Code} {D : va_G} {cI cZ cG cL : ClassId} {ad : Nat → Nat} (C0 : gk_F p s m args meth c cX8_setHolds 5 (some .boolean) RX8) (hK : gk_K D cI cZ cG cL s) (ht : ∀ x ∈ c.exceptionTable.toList, False) (hfl : l.stackTraces = false) {q1 q2 q3 : Nat} (hY : gk_Y q1 q2 q3 (gk_A ad s.heap.size) s s.heap) {T : String → gk_C → Prop} {Q : Int32 → gk_C → Prop} : ∀ (σ : gk_C) (x1 : Int32) (x2 : Int32) (x3 : Int32) (t0 : Int32), wJ_X8_setHolds_58 T Q σ x1 x2 x3 t0 → ∀ (H : Heap) (locs : List Loc), gk_W D cI ad σ H → va_S (gk_A ad s.heap.size) s.heap H locs → ∀ (ls : Array Slot), lv_has ls 5 [(0, .ref (ad 0)), (1, .int x1), (2, .int x2), (3, .int x3)] → W p l e rmX8_setHolds s m args below meth c H locs 1 6 (vx_MQ below (va_Qi (fun r u => Q r u) (gk_B D cI ad) (gk_A ad s.heap.size)) (gk_XT D cI ad T s.heap.size) args s 3 18 (gk_A ad s.heap.size)) (F0 m 58 ls [.int t0]) := by
  obtain ⟨hx, hb, hml, hown, hts, hr, hlocks⟩ := id C0
  intro σ x1 x2 x3 t0 hw H locs hW hS ls hl
  refine gk_chk (T := T) C0 ht (c_X8_checkArguments l hfl hw) (va_cwS 1 hts (gk_gS ml_X8_41 st_X8_checkArguments in_X8 co_X8_checkArguments) rfl rfl rfl (by decide +kernel) ⟨Nat.le_of_ble_eq_true rfl, Nat.le_of_ble_eq_true rfl⟩) hW hY hS hl.1 (rest := []) (lv_room (Nat.le_of_ble_eq_true rfl)) dX8_setHolds_58 ⟨Nat.le_of_ble_eq_true rfl, Nat.le_of_ble_eq_true rfl⟩ ⟨Nat.le_of_ble_eq_true rfl, Nat.le_of_ble_eq_true rfl⟩ (fun H locs hw hW hS => ?_)
  refine lv_iload_n hx hb dX8_setHolds_61 rfl (lv_at hl 3 rfl) ?_
  refine lv_if_eq (tgt := 74) hx hb dX8_setHolds_62 (by decide) (fun c62 => ?_) (fun c62 => ?_)
  · have hw := hw.1 c62
    refine tJ_X8_setHolds_74 C0 hK ht hfl hY (hk79 := ?_) σ x1 x2 x3 hw _ _ hW hS _ hl
    · intro σ x1 x2 x3 t0 hw H locs hW hS ls hl
      refine tJ_X8_setHolds_79 C0 hK ht hfl hY  σ x1 x2 x3 t0 hw _ _ hW hS _ hl
  · have hw := hw.2 c62
    refine lv_aload_n hx hb dX8_setHolds_65 rfl (lv_at hl 0 rfl) ?_
    refine lv_iload_n hx hb dX8_setHolds_66 rfl (lv_at hl 1 rfl) ?_
    refine lv_iload_n hx hb dX8_setHolds_67 rfl (lv_at hl 2 rfl) ?_
    refine gk_callVi ⟨hx, hb, hml, hown, hts⟩ (c_X8_wouldSplitSomeone l D cI cZ cG cL ad hw) (cwV 2 hts (gk_gV ml_X8_113 im_X8_wouldSplitSomeone se_X8_wouldSplitSomeone in_X8 co_X8_wouldSplitSomeone) rfl rfl rfl (by decide +kernel) ⟨Nat.le_of_ble_eq_true rfl, Nat.le_of_ble_eq_true rfl⟩) (gk_recv hK.1 (gk_o0 hW) rfl) hW hK hS rfl hl.1 (rest := []) rfl (lv_room (Nat.le_of_ble_eq_true rfl)) dX8_setHolds_68 ⟨Nat.le_of_ble_eq_true rfl, Nat.le_of_ble_eq_true rfl⟩ (fun r68 σ68 H locs hw hW _ hS => ?_)
    refine lv_if_ne (tgt := 78) hx hb dX8_setHolds_71 (by decide) (fun c71 => ?_) (fun c71 => ?_)
    · have hw := hw.1 c71
      refine lv_iconst (v := 0) hx hb dX8_setHolds_78 (by decide) ?_
      refine tJ_X8_setHolds_79 C0 hK ht hfl hY  σ68 x1 x2 x3 0 hw _ _ hW hS _ hl
    · have hw := hw.2 c71
      refine tJ_X8_setHolds_74 C0 hK ht hfl hY (hk79 := ?_) σ68 x1 x2 x3 hw _ _ hW hS _ hl
      · intro σ x1 x2 x3 t0 hw H locs hW hS ls hl
        refine tJ_X8_setHolds_79 C0 hK ht hfl hY  σ x1 x2 x3 t0 hw _ _ hW hS _ hl
set_option maxHeartbeats 4000000 in
set_option maxRecDepth 100000 in
theorem tJ_X8_setHolds_53 {p : Program} {l : Launch} {e : Env} {s : State} {m : MethodId} {args : Array Value} {below : List Frame} {meth : Method} {c : Code} {D : va_G} {cI cZ cG cL : ClassId} {ad : Nat → Nat} (C0 : gk_F p s m args meth c cX8_setHolds 5 (some .boolean) RX8) (hK : gk_K D cI cZ cG cL s) (ht : ∀ x ∈ c.exceptionTable.toList, False) (hfl : l.stackTraces = false) {q1 q2 q3 : Nat} (hY : gk_Y q1 q2 q3 (gk_A ad s.heap.size) s s.heap) {T : String → gk_C → Prop} {Q : Int32 → gk_C → Prop} {k58 : gk_C → Int32 → Int32 → Int32 → Int32 → Prop} (hk58 : ∀ (σ : gk_C) (x1 : Int32) (x2 : Int32) (x3 : Int32) (t0 : Int32), k58 σ x1 x2 x3 t0 → ∀ (H : Heap) (locs : List Loc), gk_W D cI ad σ H → va_S (gk_A ad s.heap.size) s.heap H locs → ∀ (ls : Array Slot), lv_has ls 5 [(0, .ref (ad 0)), (1, .int x1), (2, .int x2), (3, .int x3)] → W p l e rmX8_setHolds s m args below meth c H locs 1 6 (vx_MQ below (va_Qi (fun r u => Q r u) (gk_B D cI ad) (gk_A ad s.heap.size)) (gk_XT D cI ad T s.heap.size) args s 3 18 (gk_A ad s.heap.size)) (F0 m 58 ls [.int t0])) : ∀ (σ : gk_C) (x1 : Int32) (x2 : Int32) (x3 : Int32), wJ_X8_setHolds_53 T k58 σ x1 x2 x3 → ∀ (H : Heap) (locs : List Loc), gk_W D cI ad σ H → va_S (gk_A ad s.heap.size) s.heap H locs → ∀ (ls : Array Slot), lv_has ls 5 [(0, .ref (ad 0)), (1, .int x1), (2, .int x2), (3, .int x3)] → W p l e rmX8_setHolds s m args below meth c H locs 1 6 (vx_MQ below (va_Qi (fun r u => Q r u) (gk_B D cI ad) (gk_A ad s.heap.size)) (gk_XT D cI ad T s.heap.size) args s 3 18 (gk_A ad s.heap.size)) (F0 m 53 ls []) := by
  obtain ⟨hx, hb, hml, hown, hts, hr, hlocks⟩ := id C0
  intro σ x1 x2 x3 hw H locs hW hS ls hl
  refine lv_iconst (v := 1) hx hb dX8_setHolds_53 (by decide) ?_
  refine lv_goto (tgt := 58) hx hb dX8_setHolds_54 (by decide) ?_
  exact hk58 σ x1 x2 x3 1 hw _ _ hW hS _ hl
set_option maxHeartbeats 4000000 in
set_option maxRecDepth 100000 in
theorem tJ_X8_setHolds_21 {p : Program} {l : Launch} {e : Env} {s : State} {m : MethodId} {args : Array Value} {below : List Frame} {meth : Method} {c : Code} {D : va_G} {cI cZ cG cL : ClassId} {ad : Nat → Nat} (C0 : gk_F p s m args meth c cX8_setHolds 5 (some .boolean) RX8) (hK : gk_K D cI cZ cG cL s) (ht : ∀ x ∈ c.exceptionTable.toList, False) (hfl : l.stackTraces = false) {q1 q2 q3 : Nat} (hY : gk_Y q1 q2 q3 (gk_A ad s.heap.size) s s.heap) {T : String → gk_C → Prop} {Q : Int32 → gk_C → Prop} : ∀ (σ : gk_C) (x1 : Int32) (x2 : Int32) (x3 : Int32) (t0 : Int32), wJ_X8_setHolds_21 T Q σ x1 x2 x3 t0 → ∀ (H : Heap) (locs : List Loc), gk_W D cI ad σ H → va_S (gk_A ad s.heap.size) s.heap H locs → ∀ (ls : Array Slot), lv_has ls 5 [(0, .ref (ad 0)), (1, .int x1), (2, .int x2), (3, .int x3)] → W p l e rmX8_setHolds s m args below meth c H locs 0 0 (vx_MQ below (va_Qi (fun r u => Q r u) (gk_B D cI ad) (gk_A ad s.heap.size)) (gk_XT D cI ad T s.heap.size) args s 3 18 (gk_A ad s.heap.size)) (F0 m 21 ls [.int t0]) := by
  obtain ⟨hx, hb, hml, hown, hts, hr, hlocks⟩ := id C0
  intro σ x1 x2 x3 t0 hw H locs hW hS ls hl
  refine gk_chk (T := T) C0 ht (c_X8_checkThere l hfl hw) (va_cwS 1 hts (gk_gS ml_X8_76 st_X8_checkThere in_X8 co_X8_checkThere) rfl rfl rfl (by decide +kernel) ⟨Nat.le_of_ble_eq_true rfl, Nat.le_of_ble_eq_true rfl⟩) hW hY hS hl.1 (rest := []) (lv_room (Nat.le_of_ble_eq_true rfl)) dX8_setHolds_21 ⟨Nat.le_of_ble_eq_true rfl, Nat.le_of_ble_eq_true rfl⟩ ⟨Nat.le_of_ble_eq_true rfl, Nat.le_of_ble_eq_true rfl⟩ (fun H locs hw hW hS => ?_)
  refine lv_iload_n hx hb dX8_setHolds_24 rfl (lv_at hl 1 rfl) ?_
  refine lv_iload_n hx hb dX8_setHolds_25 rfl (lv_at hl 2 rfl) ?_
  refine lv_icmp_eq (tgt := 57) hx hb dX8_setHolds_26 (by decide) (fun c26 => ?_) (fun c26 => ?_)
  · have hw := hw.1 c26
    refine tJ_X8_setHolds_57 C0 hK ht hfl hY (hk58 := ?_) σ x1 x2 x3 hw _ _ hW hS _ hl
    · intro σ x1 x2 x3 t0 hw H locs hW hS ls hl
      refine tJ_X8_setHolds_58 C0 hK ht hfl hY  σ x1 x2 x3 t0 hw _ _ hW hS _ hl
  · have hw := hw.2 c26
    refine lv_iload_n hx hb dX8_setHolds_29 rfl (lv_at hl 3 rfl) ?_
    refine lv_if_eq (tgt := 53) hx hb dX8_setHolds_30 (by decide) (fun c30 => ?_) (fun c30 => ?_)
    · have hw := hw.1 c30
      refine tJ_X8_setHolds_53 C0 hK ht hfl hY (hk58 := ?_) σ x1 x2 x3 hw _ _ hW hS _ hl
      · intro σ x1 x2 x3 t0 hw H locs hW hS ls hl
        refine tJ_X8_setHolds_58 C0 hK ht hfl hY  σ x1 x2 x3 t0 hw _ _ hW hS _ hl
    · have hw := hw.2 c30
      refine lv_aload_n hx hb dX8_setHolds_33 rfl (lv_at hl 0 rfl) ?_
      refine gk_get hx hb hts iwX8 hown hK.1 (gk_o0 hW) rfl 0 (by decide) (hts _ fl_X8_10) (fun _ h9 => h9) rfl dX8_setHolds_34 ?_
      refine gk_getN hx hb hts iwX4 hown hK.1 (gk_o1 hW) rfl 1 (by decide) (gk_nw hK nf_X8_62) (fun _ h9 => h9) rfl dX8_setHolds_37 ?_
      refine lv_iconst (v := 1) hx hb dX8_setHolds_40 (by decide) ?_
      refine lv_iload_n hx hb dX8_setHolds_41 rfl (lv_at hl 2 rfl) ?_
      refine lv_ishl hx hb dX8_setHolds_42 ?_
      refine gk_callRi ⟨hx, hb, hml, hown, hts⟩ (c_X1_hadWith l D cI cZ cG cL ad hw) (cwV 1 hts (gk_gV ml_X8_101 im_X1_hadWith se_X1_hadWith in_X1 co_X1_hadWith) rfl rfl rfl (by decide +kernel) ⟨Nat.le_of_ble_eq_true rfl, Nat.le_of_ble_eq_true rfl⟩) (gk_recv hK.1 (gk_o3 hW) rfl) hW hK hS rfl hl.1 (rest := []) rfl (lv_room (Nat.le_of_ble_eq_true rfl)) dX8_setHolds_43 ⟨Nat.le_of_ble_eq_true rfl, Nat.le_of_ble_eq_true rfl⟩ (fun r43 H locs hw hW _ hS => ?_)
      refine lv_iload_n hx hb dX8_setHolds_46 rfl (lv_at hl 1 rfl) ?_
      refine gk_callSi ⟨hx, hb, hml, hown, hts⟩ (c_X8_isIn l hw) (va_cwS 2 hts (gk_gS ml_X8_110 st_X8_isIn in_X8 co_X8_isIn) rfl rfl rfl (by decide +kernel) ⟨Nat.le_of_ble_eq_true rfl, Nat.le_of_ble_eq_true rfl⟩) hS rfl hl.1 (rest := []) rfl (lv_room (Nat.le_of_ble_eq_true rfl)) dX8_setHolds_47 ⟨Nat.le_of_ble_eq_true rfl, Nat.le_of_ble_eq_true rfl⟩ (fun r47 H locs hw _ hk hS => ?_)
      have hW := hW.kept (fun k hk9 => hk _ (hW.lt hk9))
      refine lv_if_ne (tgt := 57) hx hb dX8_setHolds_50 (by decide) (fun c50 => ?_) (fun c50 => ?_)
      · have hw := hw.1 c50
        refine tJ_X8_setHolds_57 C0 hK ht hfl hY (hk58 := ?_) σ x1 x2 x3 hw _ _ hW hS _ hl
        · intro σ x1 x2 x3 t0 hw H locs hW hS ls hl
          refine tJ_X8_setHolds_58 C0 hK ht hfl hY  σ x1 x2 x3 t0 hw _ _ hW hS _ hl
      · have hw := hw.2 c50
        refine tJ_X8_setHolds_53 C0 hK ht hfl hY (hk58 := ?_) σ x1 x2 x3 hw _ _ hW hS _ hl
        · intro σ x1 x2 x3 t0 hw H locs hW hS ls hl
          refine tJ_X8_setHolds_58 C0 hK ht hfl hY  σ x1 x2 x3 t0 hw _ _ hW hS _ hl
set_option maxHeartbeats 4000000 in
set_option maxRecDepth 100000 in
theorem c_X8_setHolds (l : Launch) (hfl : l.stackTraces = false) (D : va_G) (cI cZ cG cL : ClassId) (ad : Nat → Nat) (q1 q2 q3 : Nat) {σ : gk_C} {a0 : Int32} {a1 : Int32} {a2 : Int32} {T : String → gk_C → Prop} {Q : Int32 → gk_C → Prop} {sz : Nat} (hw : w_X8_setHolds σ a0 a1 a2 T Q) : vx_Met l yX8_setHolds wsX8_setHolds rmX8_setHolds (gk_Pt D cI cZ cG cL ad q1 q2 q3 [.ref (ad 0), .int a0, .int a1, .int a2] sz σ) (va_Qi (fun r u => Q r u) (gk_B D cI ad) (gk_A ad sz)) (gk_XT D cI ad T sz) 3 18 (gk_A ad sz) := by
  refine vx_ofW (cc := cX8_setHolds) (maxL := 5) (ret := (some .boolean)) (by decide) rfl ?_
  intro p e s m args below meth c s₁ B hml0 ht hv0
  obtain ⟨rfl, hsz, hW, hK, hY⟩ := hv0
  subst hsz
  have C0 : gk_F p s m ([.ref (ad 0), .int a0, .int a1, .int a2] : List Value).toArray meth c cX8_setHolds 5 (some .boolean) RX8 := ⟨B.exec, B.bytes, hml0, findClass_of_methodNamed B.named, fun w hw => atoms_spec (ws := wsX8_setHolds) B.pre w (List.mem_cons_of_mem _ hw), B.returns, B.notSynchronized⟩
  obtain ⟨hx, hb, hml, hown, hts, hr, hlocks⟩ := id C0
  have hS : va_S (gk_A ad s.heap.size) s.heap s.heap [] := va_S.rf
  have hl := lv_entry ([.ref (ad 0), .int a0, .int a1, .int a2]) (n := 5) (Nat.le_of_ble_eq_true rfl)
  rw [lg_entry_eq]
  generalize (lg_sl ([.ref (ad 0), .int a0, .int a1, .int a2]) ++ List.replicate (5 - (lg_sl ([.ref (ad 0), .int a0, .int a1, .int a2])).length) Slot.unset).toArray = ls at hl ⊢
  have hl : lv_has ls 5 [(0, .ref (ad 0)), (1, .int a0), (2, .int a1), (3, .int a2)] := hl
  show W p l e rmX8_setHolds s m _ below meth c s.heap [] 0 0 _ _
  refine lv_aload_n hx hb dX8_setHolds_0 rfl (lv_at hl 0 rfl) ?_
  refine lv_iload_n hx hb dX8_setHolds_1 rfl (lv_at hl 1 rfl) ?_
  refine gk_callRi ⟨hx, hb, hml, hown, hts⟩ (c_X8_isRole l D cI cZ cG cL ad hw) (cwV 1 hts (gk_gV ml_X8_92 im_X8_isRole se_X8_isRole in_X8 co_X8_isRole) rfl rfl rfl (by decide +kernel) ⟨Nat.le_of_ble_eq_true rfl, Nat.le_of_ble_eq_true rfl⟩) (gk_recv hK.1 (gk_o0 hW) rfl) hW hK hS rfl hl.1 (rest := []) rfl (lv_room (Nat.le_of_ble_eq_true rfl)) dX8_setHolds_2 ⟨Nat.le_of_ble_eq_true rfl, Nat.le_of_ble_eq_true rfl⟩ (fun r2 H locs hw hW _ hS => ?_)
  refine lv_if_eq (tgt := 20) hx hb dX8_setHolds_5 (by decide) (fun c5 => ?_) (fun c5 => ?_)
  · have hw := hw.1 c5
    refine tJ_X8_setHolds_20 C0 hK ht hfl hY (hk21 := ?_) σ a0 a1 a2 hw _ _ hW hS _ hl
    · intro σ x1 x2 x3 t0 hw H locs hW hS ls hl
      refine tJ_X8_setHolds_21 C0 hK ht hfl hY  σ x1 x2 x3 t0 hw _ _ hW hS _ hl
  · have hw := hw.2 c5
    refine lv_aload_n hx hb dX8_setHolds_8 rfl (lv_at hl 0 rfl) ?_
    refine lv_iload_n hx hb dX8_setHolds_9 rfl (lv_at hl 2 rfl) ?_
    refine gk_callRi ⟨hx, hb, hml, hown, hts⟩ (c_X8_isRole l D cI cZ cG cL ad hw) (cwV 1 hts (gk_gV ml_X8_92 im_X8_isRole se_X8_isRole in_X8 co_X8_isRole) rfl rfl rfl (by decide +kernel) ⟨Nat.le_of_ble_eq_true rfl, Nat.le_of_ble_eq_true rfl⟩) (gk_recv hK.1 (gk_o0 hW) rfl) hW hK hS rfl hl.1 (rest := []) rfl (lv_room (Nat.le_of_ble_eq_true rfl)) dX8_setHolds_10 ⟨Nat.le_of_ble_eq_true rfl, Nat.le_of_ble_eq_true rfl⟩ (fun r10 H locs hw hW _ hS => ?_)
    refine lv_if_eq (tgt := 20) hx hb dX8_setHolds_13 (by decide) (fun c13 => ?_) (fun c13 => ?_)
    · have hw := hw.1 c13
      refine tJ_X8_setHolds_20 C0 hK ht hfl hY (hk21 := ?_) σ a0 a1 a2 hw _ _ hW hS _ hl
      · intro σ x1 x2 x3 t0 hw H locs hW hS ls hl
        refine tJ_X8_setHolds_21 C0 hK ht hfl hY  σ x1 x2 x3 t0 hw _ _ hW hS _ hl
    · have hw := hw.2 c13
      refine lv_iconst (v := 1) hx hb dX8_setHolds_16 (by decide) ?_
      refine lv_goto (tgt := 21) hx hb dX8_setHolds_17 (by decide) ?_
      refine tJ_X8_setHolds_21 C0 hK ht hfl hY  σ a0 a1 a2 1 hw _ _ hW hS _ hl
def wJ_X8_setApart_20 (T : String → gk_C → Prop) (k21 : gk_C → Int32 → Int32 → Int32 → Prop) (σ : gk_C) (x1 : Int32) (x2 : Int32) : Prop := (k21 σ x1 x2 0)
def wJ_X8_setApart_86 (T : String → gk_C → Prop) (k87 : gk_C → Int32 → Int32 → Int32 → Prop) (σ : gk_C) (x1 : Int32) (x2 : Int32) : Prop := (k87 σ x1 x2 0)
def wJ_X8_setApart_87 (T : String → gk_C → Prop) (Q : Int32 → gk_C → Prop) (σ : gk_C) (x1 : Int32) (x2 : Int32) (t0 : Int32) : Prop := (w_X8_checkState t0 (fun E => T E σ) (w_X1_part σ x1 x2 (fun r99 σ99 => Q r99 σ99)))
def wJ_X8_setApart_34 (T : String → gk_C → Prop) (Q : Int32 → gk_C → Prop) (σ : gk_C) (x1 : Int32) (x2 : Int32) (t0 : Int32) : Prop := (w_X8_checkArguments t0 (fun E => T E σ) (w_X8_isIn (gk_at σ 5 x1) x2 (fun r52 => ((¬ r52 = 0) → (wJ_X8_setApart_86 T (fun σ x1 x2 t0 => (wJ_X8_setApart_87 T Q σ x1 x2 t0)) σ x1 x2)) ∧ ((r52 = 0) → (((10 ≤ (σ.2 2)) → (wJ_X8_setApart_86 T (fun σ x1 x2 t0 => (wJ_X8_setApart_87 T Q σ x1 x2 t0)) σ x1 x2)) ∧ ((¬ 10 ≤ (σ.2 2)) → (w_X8_isAnyoneWith σ x1 x2 (fun r76 => ((¬ r76 = 0) → (wJ_X8_setApart_86 T (fun σ x1 x2 t0 => (wJ_X8_setApart_87 T Q σ x1 x2 t0)) σ x1 x2)) ∧ ((r76 = 0) → (wJ_X8_setApart_87 T Q σ x1 x2 1))))))))))
def wJ_X8_setApart_21 (T : String → gk_C → Prop) (Q : Int32 → gk_C → Prop) (σ : gk_C) (x1 : Int32) (x2 : Int32) (t0 : Int32) : Prop := (w_X8_checkThere t0 (fun E => T E σ) (((x1 = x2) → (wJ_X8_setApart_34 T Q σ x1 x2 0)) ∧ ((¬ x1 = x2) → (wJ_X8_setApart_34 T Q σ x1 x2 1))))
def w_X8_setApart (σ : gk_C) (a0 : Int32) (a1 : Int32) (T : String → gk_C → Prop) (Q : Int32 → gk_C → Prop) : Prop := (w_X8_isRole σ a0 (fun r2 => ((r2 = 0) → (wJ_X8_setApart_20 T (fun σ x1 x2 t0 => (wJ_X8_setApart_21 T Q σ x1 x2 t0)) σ a0 a1)) ∧ ((¬ r2 = 0) → (w_X8_isRole σ a1 (fun r10 => ((r10 = 0) → (wJ_X8_setApart_20 T (fun σ x1 x2 t0 => (wJ_X8_setApart_21 T Q σ x1 x2 t0)) σ a0 a1)) ∧ ((¬ r10 = 0) → (wJ_X8_setApart_21 T Q σ a0 a1 1)))))))
abbrev rmX8_setApart : Room := { frames := 7, cells := 3, slots := 18, locals := 102 }
set_option maxHeartbeats 4000000 in
set_option maxRecDepth 100000 in
theorem tJ_X8_setApart_20 {p : Program} {l : Launch} {e : Env} {s : State} {m : MethodId} {args : Array Value} {below : List Frame} {meth : Method} {c : Code} {D : va_G} {cI cZ cG cL : ClassId} {ad : Nat → Nat} (C0 : gk_F p s m args meth c cX8_setApart 3 (some .int) RX8) (hK : gk_K D cI cZ cG cL s) (ht : ∀ x ∈ c.exceptionTable.toList, False) (hfl : l.stackTraces = false) {q1 q2 q3 : Nat} (hY : gk_Y q1 q2 q3 (gk_A ad s.heap.size) s s.heap) {T : String → gk_C → Prop} {Q : Int32 → gk_C → Prop} {k21 : gk_C → Int32 → Int32 → Int32 → Prop} (hk21 : ∀ (σ : gk_C) (x1 : Int32) (x2 : Int32) (t0 : Int32), k21 σ x1 x2 t0 → ∀ (H : Heap) (locs : List Loc), gk_W D cI ad σ H → va_S (gk_A ad s.heap.size) s.heap H locs → ∀ (ls : Array Slot), lv_has ls 3 [(0, .ref (ad 0)), (1, .int x1), (2, .int x2)] → W p l e rmX8_setApart s m args below meth c H locs 0 0 (vx_MQ below (va_Qi (fun r u => Q r u) (gk_B D cI ad) (gk_A ad s.heap.size)) (gk_XT D cI ad T s.heap.size) args s 3 18 (gk_A ad s.heap.size)) (F0 m 21 ls [.int t0])) : ∀ (σ : gk_C) (x1 : Int32) (x2 : Int32), wJ_X8_setApart_20 T k21 σ x1 x2 → ∀ (H : Heap) (locs : List Loc), gk_W D cI ad σ H → va_S (gk_A ad s.heap.size) s.heap H locs → ∀ (ls : Array Slot), lv_has ls 3 [(0, .ref (ad 0)), (1, .int x1), (2, .int x2)] → W p l e rmX8_setApart s m args below meth c H locs 0 0 (vx_MQ below (va_Qi (fun r u => Q r u) (gk_B D cI ad) (gk_A ad s.heap.size)) (gk_XT D cI ad T s.heap.size) args s 3 18 (gk_A ad s.heap.size)) (F0 m 20 ls []) := by
  obtain ⟨hx, hb, hml, hown, hts, hr, hlocks⟩ := id C0
  intro σ x1 x2 hw H locs hW hS ls hl
  refine lv_iconst (v := 0) hx hb dX8_setApart_20 (by decide) ?_
  exact hk21 σ x1 x2 0 hw _ _ hW hS _ hl
set_option maxHeartbeats 4000000 in
set_option maxRecDepth 100000 in
theorem tJ_X8_setApart_86 {p : Program} {l : Launch} {e : Env} {s : State} {m : MethodId} {args : Array Value} {below : List Frame} {meth : Method} {c : Code} {D : va_G} {cI cZ cG cL : ClassId} {ad : Nat → Nat} (C0 : gk_F p s m args meth c cX8_setApart 3 (some .int) RX8) (hK : gk_K D cI cZ cG cL s) (ht : ∀ x ∈ c.exceptionTable.toList, False) (hfl : l.stackTraces = false) {q1 q2 q3 : Nat} (hY : gk_Y q1 q2 q3 (gk_A ad s.heap.size) s s.heap) {T : String → gk_C → Prop} {Q : Int32 → gk_C → Prop} {k87 : gk_C → Int32 → Int32 → Int32 → Prop} (hk87 : ∀ (σ : gk_C) (x1 : Int32) (x2 : Int32) (t0 : Int32), k87 σ x1 x2 t0 → ∀ (H : Heap) (locs : List Loc), gk_W D cI ad σ H → va_S (gk_A ad s.heap.size) s.heap H locs → ∀ (ls : Array Slot), lv_has ls 3 [(0, .ref (ad 0)), (1, .int x1), (2, .int x2)] → W p l e rmX8_setApart s m args below meth c H locs 2 12 (vx_MQ below (va_Qi (fun r u => Q r u) (gk_B D cI ad) (gk_A ad s.heap.size)) (gk_XT D cI ad T s.heap.size) args s 3 18 (gk_A ad s.heap.size)) (F0 m 87 ls [.int t0])) : ∀ (σ : gk_C) (x1 : Int32) (x2 : Int32), wJ_X8_setApart_86 T k87 σ x1 x2 → ∀ (H : Heap) (locs : List Loc), gk_W D cI ad σ H → va_S (gk_A ad s.heap.size) s.heap H locs → ∀ (ls : Array Slot), lv_has ls 3 [(0, .ref (ad 0)), (1, .int x1), (2, .int x2)] → W p l e rmX8_setApart s m args below meth c H locs 2 12 (vx_MQ below (va_Qi (fun r u => Q r u) (gk_B D cI ad) (gk_A ad s.heap.size)) (gk_XT D cI ad T s.heap.size) args s 3 18 (gk_A ad s.heap.size)) (F0 m 86 ls []) := by
  obtain ⟨hx, hb, hml, hown, hts, hr, hlocks⟩ := id C0
  intro σ x1 x2 hw H locs hW hS ls hl
  refine lv_iconst (v := 0) hx hb dX8_setApart_86 (by decide) ?_
  exact hk87 σ x1 x2 0 hw _ _ hW hS _ hl
set_option maxHeartbeats 4000000 in
set_option maxRecDepth 100000 in
theorem tJ_X8_setApart_87 {p : Program} {l : Launch} {e : Env} {s : State} {m : MethodId} {args : Array Value} {below : List Frame} {meth : Method} {c : Code} {D : va_G} {cI cZ cG cL : ClassId} {ad : Nat → Nat} (C0 : gk_F p s m args meth c cX8_setApart 3 (some .int) RX8) (hK : gk_K D cI cZ cG cL s) (ht : ∀ x ∈ c.exceptionTable.toList, False) (hfl : l.stackTraces = false) {q1 q2 q3 : Nat} (hY : gk_Y q1 q2 q3 (gk_A ad s.heap.size) s s.heap) {T : String → gk_C → Prop} {Q : Int32 → gk_C → Prop} : ∀ (σ : gk_C) (x1 : Int32) (x2 : Int32) (t0 : Int32), wJ_X8_setApart_87 T Q σ x1 x2 t0 → ∀ (H : Heap) (locs : List Loc), gk_W D cI ad σ H → va_S (gk_A ad s.heap.size) s.heap H locs → ∀ (ls : Array Slot), lv_has ls 3 [(0, .ref (ad 0)), (1, .int x1), (2, .int x2)] → W p l e rmX8_setApart s m args below meth c H locs 2 12 (vx_MQ below (va_Qi (fun r u => Q r u) (gk_B D cI ad) (gk_A ad s.heap.size)) (gk_XT D cI ad T s.heap.size) args s 3 18 (gk_A ad s.heap.size)) (F0 m 87 ls [.int t0]) := by
  obtain ⟨hx, hb, hml, hown, hts, hr, hlocks⟩ := id C0
  intro σ x1 x2 t0 hw H locs hW hS ls hl
  refine gk_chk (T := T) C0 ht (c_X8_checkState l hfl hw) (va_cwS 1 hts (gk_gS ml_X8_55 st_X8_checkState in_X8 co_X8_checkState) rfl rfl rfl (by decide +kernel) ⟨Nat.le_of_ble_eq_true rfl, Nat.le_of_ble_eq_true rfl⟩) hW hY hS hl.1 (rest := []) (lv_room (Nat.le_of_ble_eq_true rfl)) dX8_setApart_87 ⟨Nat.le_of_ble_eq_true rfl, Nat.le_of_ble_eq_true rfl⟩ ⟨Nat.le_of_ble_eq_true rfl, Nat.le_of_ble_eq_true rfl⟩ (fun H locs hw hW hS => ?_)
  refine lv_aload_n hx hb dX8_setApart_90 rfl (lv_at hl 0 rfl) ?_
  refine gk_get hx hb hts iwX8 hown hK.1 (gk_o0 hW) rfl 0 (by decide) (hts _ fl_X8_10) (fun _ h9 => h9) rfl dX8_setApart_91 ?_
  refine gk_getN hx hb hts iwX4 hown hK.1 (gk_o1 hW) rfl 1 (by decide) (gk_nw hK nf_X8_62) (fun _ h9 => h9) rfl dX8_setApart_94 ?_
  refine lv_iload_n hx hb dX8_setApart_97 rfl (lv_at hl 1 rfl) ?_
  refine lv_iload_n hx hb dX8_setApart_98 rfl (lv_at hl 2 rfl) ?_
  refine gk_callVi ⟨hx, hb, hml, hown, hts⟩ (c_X1_part l D cI cZ cG cL ad hw) (cwV 2 hts (gk_gV ml_X8_128 im_X1_part se_X1_part in_X1 co_X1_part) rfl rfl rfl (by decide +kernel) ⟨Nat.le_of_ble_eq_true rfl, Nat.le_of_ble_eq_true rfl⟩) (gk_recv hK.1 (gk_o3 hW) rfl) hW hK hS rfl hl.1 (rest := []) rfl (lv_room (Nat.le_of_ble_eq_true rfl)) dX8_setApart_99 ⟨Nat.le_of_ble_eq_true rfl, Nat.le_of_ble_eq_true rfl⟩ (fun r99 σ99 H locs hw hW _ hS => ?_)
  refine W.widen (k := 3) (n := 18) (Nat.le_of_ble_eq_true rfl) (Nat.le_of_ble_eq_true rfl) ?_
  refine vx_ret ?_
  exact gk_reti C0 hw hW hS dX8_setApart_102
set_option maxHeartbeats 4000000 in
set_option maxRecDepth 100000 in
theorem tJ_X8_setApart_34 {p : Program} {l : Launch} {e : Env} {s : State} {m : MethodId} {args : Array Value} {below : List Frame} {meth : Method} {c : Code} {D : va_G} {cI cZ cG cL : ClassId} {ad : Nat → Nat} (C0 : gk_F p s m args meth c cX8_setApart 3 (some .int) RX8) (hK : gk_K D cI cZ cG cL s) (ht : ∀ x ∈ c.exceptionTable.toList, False) (hfl : l.stackTraces = false) {q1 q2 q3 : Nat} (hY : gk_Y q1 q2 q3 (gk_A ad s.heap.size) s s.heap) {T : String → gk_C → Prop} {Q : Int32 → gk_C → Prop} : ∀ (σ : gk_C) (x1 : Int32) (x2 : Int32) (t0 : Int32), wJ_X8_setApart_34 T Q σ x1 x2 t0 → ∀ (H : Heap) (locs : List Loc), gk_W D cI ad σ H → va_S (gk_A ad s.heap.size) s.heap H locs → ∀ (ls : Array Slot), lv_has ls 3 [(0, .ref (ad 0)), (1, .int x1), (2, .int x2)] → W p l e rmX8_setApart s m args below meth c H locs 1 6 (vx_MQ below (va_Qi (fun r u => Q r u) (gk_B D cI ad) (gk_A ad s.heap.size)) (gk_XT D cI ad T s.heap.size) args s 3 18 (gk_A ad s.heap.size)) (F0 m 34 ls [.int t0]) := by
  obtain ⟨hx, hb, hml, hown, hts, hr, hlocks⟩ := id C0
  intro σ x1 x2 t0 hw H locs hW hS ls hl
  refine gk_chk (T := T) C0 ht (c_X8_checkArguments l hfl hw) (va_cwS 1 hts (gk_gS ml_X8_41 st_X8_checkArguments in_X8 co_X8_checkArguments) rfl rfl rfl (by decide +kernel) ⟨Nat.le_of_ble_eq_true rfl, Nat.le_of_ble_eq_true rfl⟩) hW hY hS hl.1 (rest := []) (lv_room (Nat.le_of_ble_eq_true rfl)) dX8_setApart_34 ⟨Nat.le_of_ble_eq_true rfl, Nat.le_of_ble_eq_true rfl⟩ ⟨Nat.le_of_ble_eq_true rfl, Nat.le_of_ble_eq_true rfl⟩ (fun H locs hw hW hS => ?_)
  refine lv_aload_n hx hb dX8_setApart_37 rfl (lv_at hl 0 rfl) ?_
  refine gk_get hx hb hts iwX8 hown hK.1 (gk_o0 hW) rfl 0 (by decide) (hts _ fl_X8_10) (fun _ h9 => h9) rfl dX8_setApart_38 ?_
  refine gk_getN hx hb hts iwX4 hown hK.1 (gk_o1 hW) rfl 1 (by decide) (gk_nw hK nf_X8_62) (fun _ h9 => h9) rfl dX8_setApart_41 ?_
  refine gk_getN hx hb hts iwX1 hown hK.1 (gk_o3 hW) rfl 3 (by decide) (gk_nw hK nf_X8_119) (fun _ h9 => h9) rfl dX8_setApart_44 ?_
  refine lv_iload_n hx hb dX8_setApart_47 rfl (lv_at hl 1 rfl) ?_
  refine gk_callRi ⟨hx, hb, hml, hown, hts⟩ (c_X2_at l D cI cZ cG cL ad (σ := σ) (r := 5) (i := x1) (by decide)) (cwV 1 hts (gk_gV ml_X8_98 im_X2_at se_X2_at in_X2 co_X2_at) rfl rfl rfl (by decide +kernel) ⟨Nat.le_of_ble_eq_true rfl, Nat.le_of_ble_eq_true rfl⟩) (gk_recv hK.1 (gk_or hW (r := 5) (by decide)) rfl) hW hK hS rfl hl.1 (rest := []) rfl (lv_room (Nat.le_of_ble_eq_true rfl)) dX8_setApart_48 ⟨Nat.le_of_ble_eq_true rfl, Nat.le_of_ble_eq_true rfl⟩ (fun r48 H locs hq hW _ hS => ?_)
  obtain rfl := hq
  refine lv_iload_n hx hb dX8_setApart_51 rfl (lv_at hl 2 rfl) ?_
  refine gk_callSi ⟨hx, hb, hml, hown, hts⟩ (c_X8_isIn l hw) (va_cwS 2 hts (gk_gS ml_X8_110 st_X8_isIn in_X8 co_X8_isIn) rfl rfl rfl (by decide +kernel) ⟨Nat.le_of_ble_eq_true rfl, Nat.le_of_ble_eq_true rfl⟩) hS rfl hl.1 (rest := []) rfl (lv_room (Nat.le_of_ble_eq_true rfl)) dX8_setApart_52 ⟨Nat.le_of_ble_eq_true rfl, Nat.le_of_ble_eq_true rfl⟩ (fun r52 H locs hw _ hk hS => ?_)
  have hW := hW.kept (fun k hk9 => hk _ (hW.lt hk9))
  refine lv_if_ne (tgt := 86) hx hb dX8_setApart_55 (by decide) (fun c55 => ?_) (fun c55 => ?_)
  · have hw := hw.1 c55
    refine tJ_X8_setApart_86 C0 hK ht hfl hY (hk87 := ?_) σ x1 x2 hw _ _ hW hS _ hl
    · intro σ x1 x2 t0 hw H locs hW hS ls hl
      refine tJ_X8_setApart_87 C0 hK ht hfl hY  σ x1 x2 t0 hw _ _ hW hS _ hl
  · have hw := hw.2 c55
    refine lv_aload_n hx hb dX8_setApart_58 rfl (lv_at hl 0 rfl) ?_
    refine gk_get hx hb hts iwX8 hown hK.1 (gk_o0 hW) rfl 0 (by decide) (hts _ fl_X8_10) (fun _ h9 => h9) rfl dX8_setApart_59 ?_
    refine gk_getN hx hb hts iwX4 hown hK.1 (gk_o1 hW) rfl 1 (by decide) (gk_nw hK nf_X8_62) (fun _ h9 => h9) rfl dX8_setApart_62 ?_
    refine gk_getN hx hb hts iwX1 hown hK.1 (gk_o3 hW) rfl 1 (by decide) (gk_nw hK nf_X8_122) (fun _ h9 => h9) rfl dX8_setApart_65 ?_
    refine lv_bipush (v := 10) hx hb dX8_setApart_68 (by decide) ?_
    refine lv_icmp_ge (tgt := 86) hx hb dX8_setApart_70 (by decide) (fun c70 => ?_) (fun c70 => ?_)
    · have hw := hw.1 c70
      refine tJ_X8_setApart_86 C0 hK ht hfl hY (hk87 := ?_) σ x1 x2 hw _ _ hW hS _ hl
      · intro σ x1 x2 t0 hw H locs hW hS ls hl
        refine tJ_X8_setApart_87 C0 hK ht hfl hY  σ x1 x2 t0 hw _ _ hW hS _ hl
    · have hw := hw.2 c70
      refine lv_aload_n hx hb dX8_setApart_73 rfl (lv_at hl 0 rfl) ?_
      refine lv_iload_n hx hb dX8_setApart_74 rfl (lv_at hl 1 rfl) ?_
      refine lv_iload_n hx hb dX8_setApart_75 rfl (lv_at hl 2 rfl) ?_
      refine gk_callRi ⟨hx, hb, hml, hown, hts⟩ (c_X8_isAnyoneWith l D cI cZ cG cL ad hw) (cwV 2 hts (gk_gV ml_X8_125 im_X8_isAnyoneWith se_X8_isAnyoneWith in_X8 co_X8_isAnyoneWith) rfl rfl rfl (by decide +kernel) ⟨Nat.le_of_ble_eq_true rfl, Nat.le_of_ble_eq_true rfl⟩) (gk_recv hK.1 (gk_o0 hW) rfl) hW hK hS rfl hl.1 (rest := []) rfl (lv_room (Nat.le_of_ble_eq_true rfl)) dX8_setApart_76 ⟨Nat.le_of_ble_eq_true rfl, Nat.le_of_ble_eq_true rfl⟩ (fun r76 H locs hw hW _ hS => ?_)
      refine lv_if_ne (tgt := 86) hx hb dX8_setApart_79 (by decide) (fun c79 => ?_) (fun c79 => ?_)
      · have hw := hw.1 c79
        refine tJ_X8_setApart_86 C0 hK ht hfl hY (hk87 := ?_) σ x1 x2 hw _ _ hW hS _ hl
        · intro σ x1 x2 t0 hw H locs hW hS ls hl
          refine tJ_X8_setApart_87 C0 hK ht hfl hY  σ x1 x2 t0 hw _ _ hW hS _ hl
      · have hw := hw.2 c79
        refine lv_iconst (v := 1) hx hb dX8_setApart_82 (by decide) ?_
        refine lv_goto (tgt := 87) hx hb dX8_setApart_83 (by decide) ?_
        refine tJ_X8_setApart_87 C0 hK ht hfl hY  σ x1 x2 1 hw _ _ hW hS _ hl
set_option maxHeartbeats 4000000 in
set_option maxRecDepth 100000 in
theorem tJ_X8_setApart_21 {p : Program} {l : Launch} {e : Env} {s : State} {m : MethodId} {args : Array Value} {below : List Frame} {meth : Method} {c : Code} {D : va_G} {cI cZ cG cL : ClassId} {ad : Nat → Nat} (C0 : gk_F p s m args meth c cX8_setApart 3 (some .int) RX8) (hK : gk_K D cI cZ cG cL s) (ht : ∀ x ∈ c.exceptionTable.toList, False) (hfl : l.stackTraces = false) {q1 q2 q3 : Nat} (hY : gk_Y q1 q2 q3 (gk_A ad s.heap.size) s s.heap) {T : String → gk_C → Prop} {Q : Int32 → gk_C → Prop} : ∀ (σ : gk_C) (x1 : Int32) (x2 : Int32) (t0 : Int32), wJ_X8_setApart_21 T Q σ x1 x2 t0 → ∀ (H : Heap) (locs : List Loc), gk_W D cI ad σ H → va_S (gk_A ad s.heap.size) s.heap H locs → ∀ (ls : Array Slot), lv_has ls 3 [(0, .ref (ad 0)), (1, .int x1), (2, .int x2)] → W p l e rmX8_setApart s m args below meth c H locs 0 0 (vx_MQ below (va_Qi (fun r u => Q r u) (gk_B D cI ad) (gk_A ad s.heap.size)) (gk_XT D cI ad T s.heap.size) args s 3 18 (gk_A ad s.heap.size)) (F0 m 21 ls [.int t0]) := by
  obtain ⟨hx, hb, hml, hown, hts, hr, hlocks⟩ := id C0
  intro σ x1 x2 t0 hw H locs hW hS ls hl
  refine gk_chk (T := T) C0 ht (c_X8_checkThere l hfl hw) (va_cwS 1 hts (gk_gS ml_X8_76 st_X8_checkThere in_X8 co_X8_checkThere) rfl rfl rfl (by decide +kernel) ⟨Nat.le_of_ble_eq_true rfl, Nat.le_of_ble_eq_true rfl⟩) hW hY hS hl.1 (rest := []) (lv_room (Nat.le_of_ble_eq_true rfl)) dX8_setApart_21 ⟨Nat.le_of_ble_eq_true rfl, Nat.le_of_ble_eq_true rfl⟩ ⟨Nat.le_of_ble_eq_true rfl, Nat.le_of_ble_eq_true rfl⟩ (fun H locs hw hW hS => ?_)
  refine lv_iload_n hx hb dX8_setApart_24 rfl (lv_at hl 1 rfl) ?_
  refine lv_iload_n hx hb dX8_setApart_25 rfl (lv_at hl 2 rfl) ?_
  refine lv_icmp_eq (tgt := 33) hx hb dX8_setApart_26 (by decide) (fun c26 => ?_) (fun c26 => ?_)
  · have hw := hw.1 c26
    refine lv_iconst (v := 0) hx hb dX8_setApart_33 (by decide) ?_
    refine tJ_X8_setApart_34 C0 hK ht hfl hY  σ x1 x2 0 hw _ _ hW hS _ hl
  · have hw := hw.2 c26
    refine lv_iconst (v := 1) hx hb dX8_setApart_29 (by decide) ?_
    refine lv_goto (tgt := 34) hx hb dX8_setApart_30 (by decide) ?_
    refine tJ_X8_setApart_34 C0 hK ht hfl hY  σ x1 x2 1 hw _ _ hW hS _ hl
set_option maxHeartbeats 4000000 in
set_option maxRecDepth 100000 in
theorem c_X8_setApart (l : Launch) (hfl : l.stackTraces = false) (D : va_G) (cI cZ cG cL : ClassId) (ad : Nat → Nat) (q1 q2 q3 : Nat) {σ : gk_C} {a0 : Int32} {a1 : Int32} {T : String → gk_C → Prop} {Q : Int32 → gk_C → Prop} {sz : Nat} (hw : w_X8_setApart σ a0 a1 T Q) : vx_Met l yX8_setApart wsX8_setApart rmX8_setApart (gk_Pt D cI cZ cG cL ad q1 q2 q3 [.ref (ad 0), .int a0, .int a1] sz σ) (va_Qi (fun r u => Q r u) (gk_B D cI ad) (gk_A ad sz)) (gk_XT D cI ad T sz) 3 18 (gk_A ad sz) := by
  refine vx_ofW (cc := cX8_setApart) (maxL := 3) (ret := (some .int)) (by decide) rfl ?_
  intro p e s m args below meth c s₁ B hml0 ht hv0
  obtain ⟨rfl, hsz, hW, hK, hY⟩ := hv0
  subst hsz
  have C0 : gk_F p s m ([.ref (ad 0), .int a0, .int a1] : List Value).toArray meth c cX8_setApart 3 (some .int) RX8 := ⟨B.exec, B.bytes, hml0, findClass_of_methodNamed B.named, fun w hw => atoms_spec (ws := wsX8_setApart) B.pre w (List.mem_cons_of_mem _ hw), B.returns, B.notSynchronized⟩
  obtain ⟨hx, hb, hml, hown, hts, hr, hlocks⟩ := id C0
  have hS : va_S (gk_A ad s.heap.size) s.heap s.heap [] := va_S.rf
  have hl := lv_entry ([.ref (ad 0), .int a0, .int a1]) (n := 3) (Nat.le_of_ble_eq_true rfl)
  rw [lg_entry_eq]
  generalize (lg_sl ([.ref (ad 0), .int a0, .int a1]) ++ List.replicate (3 - (lg_sl ([.ref (ad 0), .int a0, .int a1])).length) Slot.unset).toArray = ls at hl ⊢
  have hl : lv_has ls 3 [(0, .ref (ad 0)), (1, .int a0), (2, .int a1)] := hl
  show W p l e rmX8_setApart s m _ below meth c s.heap [] 0 0 _ _
  refine lv_aload_n hx hb dX8_setApart_0 rfl (lv_at hl 0 rfl) ?_
  refine lv_iload_n hx hb dX8_setApart_1 rfl (lv_at hl 1 rfl) ?_
  refine gk_callRi ⟨hx, hb, hml, hown, hts⟩ (c_X8_isRole l D cI cZ cG cL ad hw) (cwV 1 hts (gk_gV ml_X8_92 im_X8_isRole se_X8_isRole in_X8 co_X8_isRole) rfl rfl rfl (by decide +kernel) ⟨Nat.le_of_ble_eq_true rfl, Nat.le_of_ble_eq_true rfl⟩) (gk_recv hK.1 (gk_o0 hW) rfl) hW hK hS rfl hl.1 (rest := []) rfl (lv_room (Nat.le_of_ble_eq_true rfl)) dX8_setApart_2 ⟨Nat.le_of_ble_eq_true rfl, Nat.le_of_ble_eq_true rfl⟩ (fun r2 H locs hw hW _ hS => ?_)
  refine lv_if_eq (tgt := 20) hx hb dX8_setApart_5 (by decide) (fun c5 => ?_) (fun c5 => ?_)
  · have hw := hw.1 c5
    refine tJ_X8_setApart_20 C0 hK ht hfl hY (hk21 := ?_) σ a0 a1 hw _ _ hW hS _ hl
    · intro σ x1 x2 t0 hw H locs hW hS ls hl
      refine tJ_X8_setApart_21 C0 hK ht hfl hY  σ x1 x2 t0 hw _ _ hW hS _ hl
  · have hw := hw.2 c5
    refine lv_aload_n hx hb dX8_setApart_8 rfl (lv_at hl 0 rfl) ?_
    refine lv_iload_n hx hb dX8_setApart_9 rfl (lv_at hl 2 rfl) ?_
    refine gk_callRi ⟨hx, hb, hml, hown, hts⟩ (c_X8_isRole l D cI cZ cG cL ad hw) (cwV 1 hts (gk_gV ml_X8_92 im_X8_isRole se_X8_isRole in_X8 co_X8_isRole) rfl rfl rfl (by decide +kernel) ⟨Nat.le_of_ble_eq_true rfl, Nat.le_of_ble_eq_true rfl⟩) (gk_recv hK.1 (gk_o0 hW) rfl) hW hK hS rfl hl.1 (rest := []) rfl (lv_room (Nat.le_of_ble_eq_true rfl)) dX8_setApart_10 ⟨Nat.le_of_ble_eq_true rfl, Nat.le_of_ble_eq_true rfl⟩ (fun r10 H locs hw hW _ hS => ?_)
    refine lv_if_eq (tgt := 20) hx hb dX8_setApart_13 (by decide) (fun c13 => ?_) (fun c13 => ?_)
    · have hw := hw.1 c13
      refine tJ_X8_setApart_20 C0 hK ht hfl hY (hk21 := ?_) σ a0 a1 hw _ _ hW hS _ hl
      · intro σ x1 x2 t0 hw H locs hW hS ls hl
        refine tJ_X8_setApart_21 C0 hK ht hfl hY  σ x1 x2 t0 hw _ _ hW hS _ hl
    · have hw := hw.2 c13
      refine lv_iconst (v := 1) hx hb dX8_setApart_16 (by decide) ?_
      refine lv_goto (tgt := 21) hx hb dX8_setApart_17 (by decide) ?_
      refine tJ_X8_setApart_21 C0 hK ht hfl hY  σ a0 a1 1 hw _ _ hW hS _ hl
def w_X8_setLabel (σ : gk_C) (a0 : Int32) (a1 : Int32) (Q : Int32 → gk_C → Prop) : Prop := (w_X8_isResource σ a0 (fun r2 => (¬ r2 = 0) ∧ w_X8_isUpTo a1 3 (fun r10 => (¬ r10 = 0) ∧ Q (gk_at σ 8 a0) (gk_put σ 8 a0 a1))))
abbrev rmX8_setLabel : Room := { frames := 1, cells := 0, slots := 0, locals := 22 }
set_option maxHeartbeats 4000000 in
set_option maxRecDepth 100000 in
theorem c_X8_setLabel (l : Launch) (D : va_G) (cI cZ cG cL : ClassId) (ad : Nat → Nat) {σ : gk_C} {a0 : Int32} {a1 : Int32} {Q : Int32 → gk_C → Prop} {sz : Nat} (hw : w_X8_setLabel σ a0 a1 Q) : Met l yX8_setLabel wsX8_setLabel rmX8_setLabel (gk_Pc D cI cZ cG cL ad [.ref (ad 0), .int a0, .int a1] sz σ) (va_Qi (fun r u => Q r u) (gk_B D cI ad) (gk_A ad sz)) 0 0 (gk_A ad sz) := by
  refine Met.ofW (cc := cX8_setLabel) (maxL := 4) (ret := (some .int)) (by decide) rfl ?_
  intro p e s m args below meth c s₁ B hml0 hv0
  obtain ⟨rfl, hsz, hW, hK⟩ := hv0
  subst hsz
  have C0 : gk_F p s m ([.ref (ad 0), .int a0, .int a1] : List Value).toArray meth c cX8_setLabel 4 (some .int) RX8 := ⟨B.exec, B.bytes, hml0, findClass_of_methodNamed B.named, fun w hw => atoms_spec (ws := wsX8_setLabel) B.pre w (List.mem_cons_of_mem _ hw), B.returns, B.notSynchronized⟩
  obtain ⟨hx, hb, hml, hown, hts, hr, hlocks⟩ := id C0
  have hS : va_S (gk_A ad s.heap.size) s.heap s.heap [] := va_S.rf
  have hl := lv_entry ([.ref (ad 0), .int a0, .int a1]) (n := 4) (Nat.le_of_ble_eq_true rfl)
  rw [lg_entry_eq]
  generalize (lg_sl ([.ref (ad 0), .int a0, .int a1]) ++ List.replicate (4 - (lg_sl ([.ref (ad 0), .int a0, .int a1])).length) Slot.unset).toArray = ls at hl ⊢
  have hl : lv_has ls 4 [(0, .ref (ad 0)), (1, .int a0), (2, .int a1)] := hl
  show W p l e rmX8_setLabel s m _ below meth c s.heap [] 0 0 _ _
  refine lv_aload_n hx hb dX8_setLabel_0 rfl (lv_at hl 0 rfl) ?_
  refine lv_iload_n hx hb dX8_setLabel_1 rfl (lv_at hl 1 rfl) ?_
  refine gk_callRi ⟨hx, hb, hml, hown, hts⟩ (c_X8_isResource l D cI cZ cG cL ad hw) (cwV 1 hts (gk_gV ml_X8_72 im_X8_isResource se_X8_isResource in_X8 co_X8_isResource) rfl rfl rfl (by decide +kernel) ⟨Nat.le_of_ble_eq_true rfl, Nat.le_of_ble_eq_true rfl⟩) (gk_recv hK.1 (gk_o0 hW) rfl) hW hK hS rfl hl.1 (rest := []) rfl (lv_room (Nat.le_of_ble_eq_true rfl)) dX8_setLabel_2 ⟨Nat.zero_le _, Nat.zero_le _⟩ (fun r2 H locs hw hW _ hS => ?_)
  obtain ⟨hc, hw⟩ := hw
  refine gk_callSv ⟨hx, hb, hml, hown, hts⟩ (c0_X8_checkThere l hc) (va_cwS 1 hts (gk_gS ml_X8_76 st_X8_checkThere in_X8 co_X8_checkThere) rfl rfl rfl (by decide +kernel) ⟨Nat.le_of_ble_eq_true rfl, Nat.le_of_ble_eq_true rfl⟩) hS rfl hl.1 (rest := []) rfl (lv_room (Nat.le_of_ble_eq_true rfl)) dX8_setLabel_5 ⟨Nat.zero_le _, Nat.zero_le _⟩ (fun H locs _ hk hS => ?_)
  have hW := hW.kept (fun k hk9 => hk _ (hW.lt hk9))
  refine lv_iload_n hx hb dX8_setLabel_8 rfl (lv_at hl 2 rfl) ?_
  refine lv_iconst (v := 3) hx hb dX8_setLabel_9 (by decide) ?_
  refine gk_callSi ⟨hx, hb, hml, hown, hts⟩ (c_X8_isUpTo l hw) (va_cwS 2 hts (gk_gS ml_X8_37 st_X8_isUpTo in_X8 co_X8_isUpTo) rfl rfl rfl (by decide +kernel) ⟨Nat.le_of_ble_eq_true rfl, Nat.le_of_ble_eq_true rfl⟩) hS rfl hl.1 (rest := []) rfl (lv_room (Nat.le_of_ble_eq_true rfl)) dX8_setLabel_10 ⟨Nat.zero_le _, Nat.zero_le _⟩ (fun r10 H locs hw _ hk hS => ?_)
  have hW := hW.kept (fun k hk9 => hk _ (hW.lt hk9))
  obtain ⟨hc, hw⟩ := hw
  refine gk_callSv ⟨hx, hb, hml, hown, hts⟩ (c0_X8_checkArguments l hc) (va_cwS 1 hts (gk_gS ml_X8_41 st_X8_checkArguments in_X8 co_X8_checkArguments) rfl rfl rfl (by decide +kernel) ⟨Nat.le_of_ble_eq_true rfl, Nat.le_of_ble_eq_true rfl⟩) hS rfl hl.1 (rest := []) rfl (lv_room (Nat.le_of_ble_eq_true rfl)) dX8_setLabel_13 ⟨Nat.zero_le _, Nat.zero_le _⟩ (fun H locs _ hk hS => ?_)
  have hW := hW.kept (fun k hk9 => hk _ (hW.lt hk9))
  refine lv_aload_n hx hb dX8_setLabel_16 rfl (lv_at hl 0 rfl) ?_
  refine gk_get hx hb hts iwX8 hown hK.1 (gk_o0 hW) rfl 0 (by decide) (hts _ fl_X8_10) (fun _ h9 => h9) rfl dX8_setLabel_17 ?_
  refine gk_getN hx hb hts iwX4 hown hK.1 (gk_o1 hW) rfl 2 (by decide) (gk_nw hK nf_X8_79) (fun _ h9 => h9) rfl dX8_setLabel_20 ?_
  refine gk_getN hx hb hts iwX5 hown hK.1 (gk_o4 hW) rfl 3 (by decide) (gk_nw hK nf_X8_137) (fun _ h9 => h9) rfl dX8_setLabel_23 ?_
  refine lv_iload_n hx hb dX8_setLabel_26 rfl (lv_at hl 1 rfl) ?_
  refine gk_callRi ⟨hx, hb, hml, hown, hts⟩ (c_X2_at l D cI cZ cG cL ad (σ := σ) (r := 8) (i := a0) (by decide)) (cwV 1 hts (gk_gV ml_X8_98 im_X2_at se_X2_at in_X2 co_X2_at) rfl rfl rfl (by decide +kernel) ⟨Nat.le_of_ble_eq_true rfl, Nat.le_of_ble_eq_true rfl⟩) (gk_recv hK.1 (gk_or hW (r := 8) (by decide)) rfl) hW hK hS rfl hl.1 (rest := []) rfl (lv_room (Nat.le_of_ble_eq_true rfl)) dX8_setLabel_27 ⟨Nat.zero_le _, Nat.zero_le _⟩ (fun r27 H locs hq hW _ hS => ?_)
  obtain rfl := hq
  refine lv_istore_n (lv' := [(3, .int (gk_at σ 8 a0)), (0, .ref (ad 0)), (1, .int a0), (2, .int a1)]) hx hb dX8_setLabel_30 rfl hl (by decide) rfl (fun ls hl => ?_)
  refine lv_aload_n hx hb dX8_setLabel_31 rfl (lv_at hl 1 rfl) ?_
  refine gk_get hx hb hts iwX8 hown hK.1 (gk_o0 hW) rfl 0 (by decide) (hts _ fl_X8_10) (fun _ h9 => h9) rfl dX8_setLabel_32 ?_
  refine gk_getN hx hb hts iwX4 hown hK.1 (gk_o1 hW) rfl 2 (by decide) (gk_nw hK nf_X8_79) (fun _ h9 => h9) rfl dX8_setLabel_35 ?_
  refine gk_getN hx hb hts iwX5 hown hK.1 (gk_o4 hW) rfl 3 (by decide) (gk_nw hK nf_X8_137) (fun _ h9 => h9) rfl dX8_setLabel_38 ?_
  refine lv_iload_n hx hb dX8_setLabel_41 rfl (lv_at hl 2 rfl) ?_
  refine lv_iload_n hx hb dX8_setLabel_42 rfl (lv_at hl 3 rfl) ?_
  refine gk_callVv ⟨hx, hb, hml, hown, hts⟩ (c_X2_put l D cI cZ cG cL ad (σ := σ) (r := 8) (i := a0) (x := a1) (by decide)) (cwV 2 hts (gk_gV ml_X8_107 im_X2_put se_X2_put in_X2 co_X2_put) rfl rfl rfl (by decide +kernel) ⟨Nat.le_of_ble_eq_true rfl, Nat.le_of_ble_eq_true rfl⟩) (gk_recv hK.1 (gk_or hW (r := 8) (by decide)) rfl) hW hK hS rfl hl.1 (rest := []) rfl (lv_room (Nat.le_of_ble_eq_true rfl)) dX8_setLabel_43 ⟨Nat.zero_le _, Nat.zero_le _⟩ (fun u H locs hq hW _ hS => ?_)
  rw [hq] at hW
  refine lv_iload_n hx hb dX8_setLabel_46 rfl (lv_at hl 0 rfl) ?_
  exact gk_reti C0 hw hW hS dX8_setLabel_47
def wJ_X8_setWall_29 (k34 : gk_C → Int32 → Int32 → Int32 → Int32 → Prop) (σ : gk_C) (x1 : Int32) (x2 : Int32) (x3 : Int32) : Prop := (k34 σ x1 x2 x3 1)
def wJ_X8_setWall_60 (Q : Int32 → gk_C → Prop) (σ : gk_C) (x1 : Int32) (x2 : Int32) (x3 : Int32) (t0 : Int32) : Prop := (gk_z t0 ∧ Q t0 (gk_put (gk_put σ 9 x1 x2) 10 x1 x3))
def wJ_X8_setWall_34 (Q : Int32 → gk_C → Prop) (σ : gk_C) (x1 : Int32) (x2 : Int32) (x3 : Int32) (t0 : Int32) : Prop := ((¬ t0 = 0) ∧ (((gk_at σ 9 x1) = (-1)) → (wJ_X8_setWall_60 Q σ x1 x2 x3 0)) ∧ ((¬ (gk_at σ 9 x1) = (-1)) → (wJ_X8_setWall_60 Q σ x1 x2 x3 1)))
def wJ_X8_setWall_33 (k34 : gk_C → Int32 → Int32 → Int32 → Int32 → Prop) (σ : gk_C) (x1 : Int32) (x2 : Int32) (x3 : Int32) : Prop := (k34 σ x1 x2 x3 0)
def w_X8_setWall (σ : gk_C) (a0 : Int32) (a1 : Int32) (a2 : Int32) (Q : Int32 → gk_C → Prop) : Prop := (w_X8_isResource σ a0 (fun r2 => (¬ r2 = 0) ∧ ((a1 = (-1)) → (wJ_X8_setWall_29 (fun σ x1 x2 x3 t0 => (wJ_X8_setWall_34 Q σ x1 x2 x3 t0)) σ a0 a1 a2)) ∧ ((¬ a1 = (-1)) → (w_X8_isUpTo a1 3 (fun r15 => ((r15 = 0) → (wJ_X8_setWall_33 (fun σ x1 x2 x3 t0 => (wJ_X8_setWall_34 Q σ x1 x2 x3 t0)) σ a0 a1 a2)) ∧ ((¬ r15 = 0) → (w_X8_isUpTo a2 3 (fun r23 => ((r23 = 0) → (wJ_X8_setWall_33 (fun σ x1 x2 x3 t0 => (wJ_X8_setWall_34 Q σ x1 x2 x3 t0)) σ a0 a1 a2)) ∧ ((¬ r23 = 0) → (wJ_X8_setWall_29 (fun σ x1 x2 x3 t0 => (wJ_X8_setWall_34 Q σ x1 x2 x3 t0)) σ a0 a1 a2))))))))))
abbrev rmX8_setWall : Room := { frames := 1, cells := 0, slots := 0, locals := 22 }
set_option maxHeartbeats 4000000 in
set_option maxRecDepth 100000 in
theorem tJ_X8_setWall_29 {p : Program} {l : Launch} {e : Env} {s : State} {m : MethodId} {args : Array Value} {below : List Frame} {meth : Method} {c : Code} {D : va_G} {cI cZ cG cL : ClassId} {ad : Nat → Nat} (C0 : gk_F p s m args meth c cX8_setWall 5 (some .boolean) RX8) (hK : gk_K D cI cZ cG cL s) {Q : Int32 → gk_C → Prop} {k34 : gk_C → Int32 → Int32 → Int32 → Int32 → Prop} (hk34 : ∀ (σ : gk_C) (x1 : Int32) (x2 : Int32) (x3 : Int32) (t0 : Int32), k34 σ x1 x2 x3 t0 → ∀ (H : Heap) (locs : List Loc), gk_W D cI ad σ H → va_S (gk_A ad s.heap.size) s.heap H locs → ∀ (ls : Array Slot), lv_has ls 5 [(0, .ref (ad 0)), (1, .int x1), (2, .int x2), (3, .int x3)] → W p l e rmX8_setWall s m args below meth c H locs 0 0 (MQ below (va_Qi (fun r u => Q r u) (gk_B D cI ad) (gk_A ad s.heap.size)) args s 0 0 (gk_A ad s.heap.size)) (F0 m 34 ls [.int t0])) : ∀ (σ : gk_C) (x1 : Int32) (x2 : Int32) (x3 : Int32), wJ_X8_setWall_29 k34 σ x1 x2 x3 → ∀ (H : Heap) (locs : List Loc), gk_W D cI ad σ H → va_S (gk_A ad s.heap.size) s.heap H locs → ∀ (ls : Array Slot), lv_has ls 5 [(0, .ref (ad 0)), (1, .int x1), (2, .int x2), (3, .int x3)] → W p l e rmX8_setWall s m args below meth c H locs 0 0 (MQ below (va_Qi (fun r u => Q r u) (gk_B D cI ad) (gk_A ad s.heap.size)) args s 0 0 (gk_A ad s.heap.size)) (F0 m 29 ls []) := by
  obtain ⟨hx, hb, hml, hown, hts, hr, hlocks⟩ := id C0
  intro σ x1 x2 x3 hw H locs hW hS ls hl
  refine lv_iconst (v := 1) hx hb dX8_setWall_29 (by decide) ?_
  refine lv_goto (tgt := 34) hx hb dX8_setWall_30 (by decide) ?_
  exact hk34 σ x1 x2 x3 1 hw _ _ hW hS _ hl
set_option maxHeartbeats 4000000 in
set_option maxRecDepth 100000 in
theorem tJ_X8_setWall_60 {p : Program} {l : Launch} {e : Env} {s : State} {m : MethodId} {args : Array Value} {below : List Frame} {meth : Method} {c : Code} {D : va_G} {cI cZ cG cL : ClassId} {ad : Nat → Nat} (C0 : gk_F p s m args meth c cX8_setWall 5 (some .boolean) RX8) (hK : gk_K D cI cZ cG cL s) {Q : Int32 → gk_C → Prop} : ∀ (σ : gk_C) (x1 : Int32) (x2 : Int32) (x3 : Int32) (t0 : Int32), wJ_X8_setWall_60 Q σ x1 x2 x3 t0 → ∀ (H : Heap) (locs : List Loc), gk_W D cI ad σ H → va_S (gk_A ad s.heap.size) s.heap H locs → ∀ (ls : Array Slot), lv_has ls 5 [(0, .ref (ad 0)), (1, .int x1), (2, .int x2), (3, .int x3)] → W p l e rmX8_setWall s m args below meth c H locs 0 0 (MQ below (va_Qi (fun r u => Q r u) (gk_B D cI ad) (gk_A ad s.heap.size)) args s 0 0 (gk_A ad s.heap.size)) (F0 m 60 ls [.int t0]) := by
  obtain ⟨hx, hb, hml, hown, hts, hr, hlocks⟩ := id C0
  intro σ x1 x2 x3 t0 hw H locs hW hS ls hl
  refine lv_istore (lv' := [(4, .int t0), (0, .ref (ad 0)), (1, .int x1), (2, .int x2), (3, .int x3)]) hx hb dX8_setWall_60 hl (by decide) rfl (fun ls hl => ?_)
  refine lv_aload_n hx hb dX8_setWall_62 rfl (lv_at hl 1 rfl) ?_
  refine gk_get hx hb hts iwX8 hown hK.1 (gk_o0 hW) rfl 0 (by decide) (hts _ fl_X8_10) (fun _ h9 => h9) rfl dX8_setWall_63 ?_
  refine gk_getN hx hb hts iwX4 hown hK.1 (gk_o1 hW) rfl 2 (by decide) (gk_nw hK nf_X8_79) (fun _ h9 => h9) rfl dX8_setWall_66 ?_
  refine gk_getN hx hb hts iwX5 hown hK.1 (gk_o4 hW) rfl 4 (by decide) (gk_nw hK nf_X8_140) (fun _ h9 => h9) rfl dX8_setWall_69 ?_
  refine lv_iload_n hx hb dX8_setWall_72 rfl (lv_at hl 2 rfl) ?_
  refine lv_iload_n hx hb dX8_setWall_73 rfl (lv_at hl 3 rfl) ?_
  refine gk_callVv ⟨hx, hb, hml, hown, hts⟩ (c_X2_put l D cI cZ cG cL ad (σ := σ) (r := 9) (i := x1) (x := x2) (by decide)) (cwV 2 hts (gk_gV ml_X8_107 im_X2_put se_X2_put in_X2 co_X2_put) rfl rfl rfl (by decide +kernel) ⟨Nat.le_of_ble_eq_true rfl, Nat.le_of_ble_eq_true rfl⟩) (gk_recv hK.1 (gk_or hW (r := 9) (by decide)) rfl) hW hK hS rfl hl.1 (rest := []) rfl (lv_room (Nat.le_of_ble_eq_true rfl)) dX8_setWall_74 ⟨Nat.zero_le _, Nat.zero_le _⟩ (fun u H locs hq hW _ hS => ?_)
  rw [hq] at hW
  refine lv_aload_n hx hb dX8_setWall_77 rfl (lv_at hl 1 rfl) ?_
  refine gk_get hx hb hts iwX8 hown hK.1 (gk_o0 hW) rfl 0 (by decide) (hts _ fl_X8_10) (fun _ h9 => h9) rfl dX8_setWall_78 ?_
  refine gk_getN hx hb hts iwX4 hown hK.1 (gk_o1 hW) rfl 2 (by decide) (gk_nw hK nf_X8_79) (fun _ h9 => h9) rfl dX8_setWall_81 ?_
  refine gk_getN hx hb hts iwX5 hown hK.1 (gk_o4 hW) rfl 5 (by decide) (gk_nw hK nf_X8_143) (fun _ h9 => h9) rfl dX8_setWall_84 ?_
  refine lv_iload_n hx hb dX8_setWall_87 rfl (lv_at hl 2 rfl) ?_
  refine lv_iload_n hx hb dX8_setWall_88 rfl (lv_at hl 4 rfl) ?_
  refine gk_callVv ⟨hx, hb, hml, hown, hts⟩ (c_X2_put l D cI cZ cG cL ad (σ := (gk_put σ 9 x1 x2)) (r := 10) (i := x1) (x := x3) (by decide)) (cwV 2 hts (gk_gV ml_X8_107 im_X2_put se_X2_put in_X2 co_X2_put) rfl rfl rfl (by decide +kernel) ⟨Nat.le_of_ble_eq_true rfl, Nat.le_of_ble_eq_true rfl⟩) (gk_recv hK.1 (gk_or hW (r := 10) (by decide)) rfl) hW hK hS rfl hl.1 (rest := []) rfl (lv_room (Nat.le_of_ble_eq_true rfl)) dX8_setWall_89 ⟨Nat.zero_le _, Nat.zero_le _⟩ (fun u H locs hq hW _ hS => ?_)
  rw [hq] at hW
  refine lv_iload hx hb dX8_setWall_92 (lv_at hl 0 rfl) ?_
  obtain ⟨hz, hw⟩ := hw
  exact gk_retz C0 hz hw hW hS dX8_setWall_94
set_option maxHeartbeats 4000000 in
set_option maxRecDepth 100000 in
theorem tJ_X8_setWall_34 {p : Program} {l : Launch} {e : Env} {s : State} {m : MethodId} {args : Array Value} {below : List Frame} {meth : Method} {c : Code} {D : va_G} {cI cZ cG cL : ClassId} {ad : Nat → Nat} (C0 : gk_F p s m args meth c cX8_setWall 5 (some .boolean) RX8) (hK : gk_K D cI cZ cG cL s) {Q : Int32 → gk_C → Prop} : ∀ (σ : gk_C) (x1 : Int32) (x2 : Int32) (x3 : Int32) (t0 : Int32), wJ_X8_setWall_34 Q σ x1 x2 x3 t0 → ∀ (H : Heap) (locs : List Loc), gk_W D cI ad σ H → va_S (gk_A ad s.heap.size) s.heap H locs → ∀ (ls : Array Slot), lv_has ls 5 [(0, .ref (ad 0)), (1, .int x1), (2, .int x2), (3, .int x3)] → W p l e rmX8_setWall s m args below meth c H locs 0 0 (MQ below (va_Qi (fun r u => Q r u) (gk_B D cI ad) (gk_A ad s.heap.size)) args s 0 0 (gk_A ad s.heap.size)) (F0 m 34 ls [.int t0]) := by
  obtain ⟨hx, hb, hml, hown, hts, hr, hlocks⟩ := id C0
  intro σ x1 x2 x3 t0 hw H locs hW hS ls hl
  obtain ⟨hc, hw⟩ := hw
  refine gk_callSv ⟨hx, hb, hml, hown, hts⟩ (c0_X8_checkArguments l hc) (va_cwS 1 hts (gk_gS ml_X8_41 st_X8_checkArguments in_X8 co_X8_checkArguments) rfl rfl rfl (by decide +kernel) ⟨Nat.le_of_ble_eq_true rfl, Nat.le_of_ble_eq_true rfl⟩) hS rfl hl.1 (rest := []) rfl (lv_room (Nat.le_of_ble_eq_true rfl)) dX8_setWall_34 ⟨Nat.zero_le _, Nat.zero_le _⟩ (fun H locs _ hk hS => ?_)
  have hW := hW.kept (fun k hk9 => hk _ (hW.lt hk9))
  refine lv_aload_n hx hb dX8_setWall_37 rfl (lv_at hl 0 rfl) ?_
  refine gk_get hx hb hts iwX8 hown hK.1 (gk_o0 hW) rfl 0 (by decide) (hts _ fl_X8_10) (fun _ h9 => h9) rfl dX8_setWall_38 ?_
  refine gk_getN hx hb hts iwX4 hown hK.1 (gk_o1 hW) rfl 2 (by decide) (gk_nw hK nf_X8_79) (fun _ h9 => h9) rfl dX8_setWall_41 ?_
  refine gk_getN hx hb hts iwX5 hown hK.1 (gk_o4 hW) rfl 4 (by decide) (gk_nw hK nf_X8_140) (fun _ h9 => h9) rfl dX8_setWall_44 ?_
  refine lv_iload_n hx hb dX8_setWall_47 rfl (lv_at hl 1 rfl) ?_
  refine gk_callRi ⟨hx, hb, hml, hown, hts⟩ (c_X2_at l D cI cZ cG cL ad (σ := σ) (r := 9) (i := x1) (by decide)) (cwV 1 hts (gk_gV ml_X8_98 im_X2_at se_X2_at in_X2 co_X2_at) rfl rfl rfl (by decide +kernel) ⟨Nat.le_of_ble_eq_true rfl, Nat.le_of_ble_eq_true rfl⟩) (gk_recv hK.1 (gk_or hW (r := 9) (by decide)) rfl) hW hK hS rfl hl.1 (rest := []) rfl (lv_room (Nat.le_of_ble_eq_true rfl)) dX8_setWall_48 ⟨Nat.zero_le _, Nat.zero_le _⟩ (fun r48 H locs hq hW _ hS => ?_)
  obtain rfl := hq
  refine lv_iconst (v := (-1)) hx hb dX8_setWall_51 (by decide) ?_
  refine lv_icmp_eq (tgt := 59) hx hb dX8_setWall_52 (by decide) (fun c52 => ?_) (fun c52 => ?_)
  · have hw := hw.1 c52
    refine lv_iconst (v := 0) hx hb dX8_setWall_59 (by decide) ?_
    refine tJ_X8_setWall_60 C0 hK  σ x1 x2 x3 0 hw _ _ hW hS _ hl
  · have hw := hw.2 c52
    refine lv_iconst (v := 1) hx hb dX8_setWall_55 (by decide) ?_
    refine lv_goto (tgt := 60) hx hb dX8_setWall_56 (by decide) ?_
    refine tJ_X8_setWall_60 C0 hK  σ x1 x2 x3 1 hw _ _ hW hS _ hl
set_option maxHeartbeats 4000000 in
set_option maxRecDepth 100000 in
theorem tJ_X8_setWall_33 {p : Program} {l : Launch} {e : Env} {s : State} {m : MethodId} {args : Array Value} {below : List Frame} {meth : Method} {c : Code} {D : va_G} {cI cZ cG cL : ClassId} {ad : Nat → Nat} (C0 : gk_F p s m args meth c cX8_setWall 5 (some .boolean) RX8) (hK : gk_K D cI cZ cG cL s) {Q : Int32 → gk_C → Prop} {k34 : gk_C → Int32 → Int32 → Int32 → Int32 → Prop} (hk34 : ∀ (σ : gk_C) (x1 : Int32) (x2 : Int32) (x3 : Int32) (t0 : Int32), k34 σ x1 x2 x3 t0 → ∀ (H : Heap) (locs : List Loc), gk_W D cI ad σ H → va_S (gk_A ad s.heap.size) s.heap H locs → ∀ (ls : Array Slot), lv_has ls 5 [(0, .ref (ad 0)), (1, .int x1), (2, .int x2), (3, .int x3)] → W p l e rmX8_setWall s m args below meth c H locs 0 0 (MQ below (va_Qi (fun r u => Q r u) (gk_B D cI ad) (gk_A ad s.heap.size)) args s 0 0 (gk_A ad s.heap.size)) (F0 m 34 ls [.int t0])) : ∀ (σ : gk_C) (x1 : Int32) (x2 : Int32) (x3 : Int32), wJ_X8_setWall_33 k34 σ x1 x2 x3 → ∀ (H : Heap) (locs : List Loc), gk_W D cI ad σ H → va_S (gk_A ad s.heap.size) s.heap H locs → ∀ (ls : Array Slot), lv_has ls 5 [(0, .ref (ad 0)), (1, .int x1), (2, .int x2), (3, .int x3)] → W p l e rmX8_setWall s m args below meth c H locs 0 0 (MQ below (va_Qi (fun r u => Q r u) (gk_B D cI ad) (gk_A ad s.heap.size)) args s 0 0 (gk_A ad s.heap.size)) (F0 m 33 ls []) := by
  obtain ⟨hx, hb, hml, hown, hts, hr, hlocks⟩ := id C0
  intro σ x1 x2 x3 hw H locs hW hS ls hl
  refine lv_iconst (v := 0) hx hb dX8_setWall_33 (by decide) ?_
  exact hk34 σ x1 x2 x3 0 hw _ _ hW hS _ hl
set_option maxHeartbeats 4000000 in
set_option maxRecDepth 100000 in
theorem c_X8_setWall (l : Launch) (D : va_G) (cI cZ cG cL : ClassId) (ad : Nat → Nat) {σ : gk_C} {a0 : Int32} {a1 : Int32} {a2 : Int32} {Q : Int32 → gk_C → Prop} {sz : Nat} (hw : w_X8_setWall σ a0 a1 a2 Q) : Met l yX8_setWall wsX8_setWall rmX8_setWall (gk_Pc D cI cZ cG cL ad [.ref (ad 0), .int a0, .int a1, .int a2] sz σ) (va_Qi (fun r u => Q r u) (gk_B D cI ad) (gk_A ad sz)) 0 0 (gk_A ad sz) := by
  refine Met.ofW (cc := cX8_setWall) (maxL := 5) (ret := (some .boolean)) (by decide) rfl ?_
  intro p e s m args below meth c s₁ B hml0 hv0
  obtain ⟨rfl, hsz, hW, hK⟩ := hv0
  subst hsz
  have C0 : gk_F p s m ([.ref (ad 0), .int a0, .int a1, .int a2] : List Value).toArray meth c cX8_setWall 5 (some .boolean) RX8 := ⟨B.exec, B.bytes, hml0, findClass_of_methodNamed B.named, fun w hw => atoms_spec (ws := wsX8_setWall) B.pre w (List.mem_cons_of_mem _ hw), B.returns, B.notSynchronized⟩
  obtain ⟨hx, hb, hml, hown, hts, hr, hlocks⟩ := id C0
  have hS : va_S (gk_A ad s.heap.size) s.heap s.heap [] := va_S.rf
  have hl := lv_entry ([.ref (ad 0), .int a0, .int a1, .int a2]) (n := 5) (Nat.le_of_ble_eq_true rfl)
  rw [lg_entry_eq]
  generalize (lg_sl ([.ref (ad 0), .int a0, .int a1, .int a2]) ++ List.replicate (5 - (lg_sl ([.ref (ad 0), .int a0, .int a1, .int a2])).length) Slot.unset).toArray = ls at hl ⊢
  have hl : lv_has ls 5 [(0, .ref (ad 0)), (1, .int a0), (2, .int a1), (3, .int a2)] := hl
  show W p l e rmX8_setWall s m _ below meth c s.heap [] 0 0 _ _
  refine lv_aload_n hx hb dX8_setWall_0 rfl (lv_at hl 0 rfl) ?_
  refine lv_iload_n hx hb dX8_setWall_1 rfl (lv_at hl 1 rfl) ?_
  refine gk_callRi ⟨hx, hb, hml, hown, hts⟩ (c_X8_isResource l D cI cZ cG cL ad hw) (cwV 1 hts (gk_gV ml_X8_72 im_X8_isResource se_X8_isResource in_X8 co_X8_isResource) rfl rfl rfl (by decide +kernel) ⟨Nat.le_of_ble_eq_true rfl, Nat.le_of_ble_eq_true rfl⟩) (gk_recv hK.1 (gk_o0 hW) rfl) hW hK hS rfl hl.1 (rest := []) rfl (lv_room (Nat.le_of_ble_eq_true rfl)) dX8_setWall_2 ⟨Nat.zero_le _, Nat.zero_le _⟩ (fun r2 H locs hw hW _ hS => ?_)
  obtain ⟨hc, hw⟩ := hw
  refine gk_callSv ⟨hx, hb, hml, hown, hts⟩ (c0_X8_checkThere l hc) (va_cwS 1 hts (gk_gS ml_X8_76 st_X8_checkThere in_X8 co_X8_checkThere) rfl rfl rfl (by decide +kernel) ⟨Nat.le_of_ble_eq_true rfl, Nat.le_of_ble_eq_true rfl⟩) hS rfl hl.1 (rest := []) rfl (lv_room (Nat.le_of_ble_eq_true rfl)) dX8_setWall_5 ⟨Nat.zero_le _, Nat.zero_le _⟩ (fun H locs _ hk hS => ?_)
  have hW := hW.kept (fun k hk9 => hk _ (hW.lt hk9))
  refine lv_iload_n hx hb dX8_setWall_8 rfl (lv_at hl 2 rfl) ?_
  refine lv_iconst (v := (-1)) hx hb dX8_setWall_9 (by decide) ?_
  refine lv_icmp_eq (tgt := 29) hx hb dX8_setWall_10 (by decide) (fun c10 => ?_) (fun c10 => ?_)
  · have hw := hw.1 c10
    refine tJ_X8_setWall_29 C0 hK (hk34 := ?_) σ a0 a1 a2 hw _ _ hW hS _ hl
    · intro σ x1 x2 x3 t0 hw H locs hW hS ls hl
      refine tJ_X8_setWall_34 C0 hK  σ x1 x2 x3 t0 hw _ _ hW hS _ hl
  · have hw := hw.2 c10
    refine lv_iload_n hx hb dX8_setWall_13 rfl (lv_at hl 2 rfl) ?_
    refine lv_iconst (v := 3) hx hb dX8_setWall_14 (by decide) ?_
    refine gk_callSi ⟨hx, hb, hml, hown, hts⟩ (c_X8_isUpTo l hw) (va_cwS 2 hts (gk_gS ml_X8_37 st_X8_isUpTo in_X8 co_X8_isUpTo) rfl rfl rfl (by decide +kernel) ⟨Nat.le_of_ble_eq_true rfl, Nat.le_of_ble_eq_true rfl⟩) hS rfl hl.1 (rest := []) rfl (lv_room (Nat.le_of_ble_eq_true rfl)) dX8_setWall_15 ⟨Nat.zero_le _, Nat.zero_le _⟩ (fun r15 H locs hw _ hk hS => ?_)
    have hW := hW.kept (fun k hk9 => hk _ (hW.lt hk9))
    refine lv_if_eq (tgt := 33) hx hb dX8_setWall_18 (by decide) (fun c18 => ?_) (fun c18 => ?_)
    · have hw := hw.1 c18
      refine tJ_X8_setWall_33 C0 hK (hk34 := ?_) σ a0 a1 a2 hw _ _ hW hS _ hl
      · intro σ x1 x2 x3 t0 hw H locs hW hS ls hl
        refine tJ_X8_setWall_34 C0 hK  σ x1 x2 x3 t0 hw _ _ hW hS _ hl
    · have hw := hw.2 c18
      refine lv_iload_n hx hb dX8_setWall_21 rfl (lv_at hl 3 rfl) ?_
      refine lv_iconst (v := 3) hx hb dX8_setWall_22 (by decide) ?_
      refine gk_callSi ⟨hx, hb, hml, hown, hts⟩ (c_X8_isUpTo l hw) (va_cwS 2 hts (gk_gS ml_X8_37 st_X8_isUpTo in_X8 co_X8_isUpTo) rfl rfl rfl (by decide +kernel) ⟨Nat.le_of_ble_eq_true rfl, Nat.le_of_ble_eq_true rfl⟩) hS rfl hl.1 (rest := []) rfl (lv_room (Nat.le_of_ble_eq_true rfl)) dX8_setWall_23 ⟨Nat.zero_le _, Nat.zero_le _⟩ (fun r23 H locs hw _ hk hS => ?_)
      have hW := hW.kept (fun k hk9 => hk _ (hW.lt hk9))
      refine lv_if_eq (tgt := 33) hx hb dX8_setWall_26 (by decide) (fun c26 => ?_) (fun c26 => ?_)
      · have hw := hw.1 c26
        refine tJ_X8_setWall_33 C0 hK (hk34 := ?_) σ a0 a1 a2 hw _ _ hW hS _ hl
        · intro σ x1 x2 x3 t0 hw H locs hW hS ls hl
          refine tJ_X8_setWall_34 C0 hK  σ x1 x2 x3 t0 hw _ _ hW hS _ hl
      · have hw := hw.2 c26
        refine tJ_X8_setWall_29 C0 hK (hk34 := ?_) σ a0 a1 a2 hw _ _ hW hS _ hl
        · intro σ x1 x2 x3 t0 hw H locs hW hS ls hl
          refine tJ_X8_setWall_34 C0 hK  σ x1 x2 x3 t0 hw _ _ hW hS _ hl
def wJ_X8_near_20 (σ : gk_C) (k21 : Int32 → Int32 → Int32 → Prop) (x1 : Int32) (x2 : Int32) : Prop := (k21 x1 x2 0)
def wJ_X8_near_21 (σ : gk_C) (Q : Int32 → Prop) (x1 : Int32) (x2 : Int32) (t0 : Int32) : Prop := ((¬ t0 = 0) ∧ w_X1_nearBy σ (gk_at σ 2 x1) x2 (fun r46 => Q r46))
def w_X8_near (σ : gk_C) (a0 : Int32) (a1 : Int32) (Q : Int32 → Prop) : Prop := (w_X8_isUser σ a0 (fun r2 => ((r2 = 0) → (wJ_X8_near_20 σ (fun x1 x2 t0 => (wJ_X8_near_21 σ Q x1 x2 t0)) a0 a1)) ∧ ((¬ r2 = 0) → (w_X8_isRole σ a1 (fun r10 => ((r10 = 0) → (wJ_X8_near_20 σ (fun x1 x2 t0 => (wJ_X8_near_21 σ Q x1 x2 t0)) a0 a1)) ∧ ((¬ r10 = 0) → (wJ_X8_near_21 σ Q a0 a1 1)))))))
abbrev rmX8_near : Room := { frames := 3, cells := 0, slots := 0, locals := 68 }
set_option maxHeartbeats 4000000 in
set_option maxRecDepth 100000 in
theorem tJ_X8_near_20 {p : Program} {l : Launch} {e : Env} {s : State} {m : MethodId} {args : Array Value} {below : List Frame} {meth : Method} {c : Code} {D : va_G} {cI cZ cG cL : ClassId} {ad : Nat → Nat} (C0 : gk_F p s m args meth c cX8_near 3 (some .int) RX8) (hK : gk_K D cI cZ cG cL s) {σ : gk_C} {Q : Int32 → Prop} {k21 : Int32 → Int32 → Int32 → Prop} (hk21 : ∀ (x1 : Int32) (x2 : Int32) (t0 : Int32), k21 x1 x2 t0 → ∀ (H : Heap) (locs : List Loc), gk_W D cI ad σ H → va_S (gk_A ad s.heap.size) s.heap H locs → ∀ (ls : Array Slot), lv_has ls 3 [(0, .ref (ad 0)), (1, .int x1), (2, .int x2)] → W p l e rmX8_near s m args below meth c H locs 0 0 (MQ below (va_Qi (fun r u => u = σ ∧ Q r) (gk_B D cI ad) (gk_A ad s.heap.size)) args s 0 0 (gk_A ad s.heap.size)) (F0 m 21 ls [.int t0])) : ∀ (x1 : Int32) (x2 : Int32), wJ_X8_near_20 σ k21 x1 x2 → ∀ (H : Heap) (locs : List Loc), gk_W D cI ad σ H → va_S (gk_A ad s.heap.size) s.heap H locs → ∀ (ls : Array Slot), lv_has ls 3 [(0, .ref (ad 0)), (1, .int x1), (2, .int x2)] → W p l e rmX8_near s m args below meth c H locs 0 0 (MQ below (va_Qi (fun r u => u = σ ∧ Q r) (gk_B D cI ad) (gk_A ad s.heap.size)) args s 0 0 (gk_A ad s.heap.size)) (F0 m 20 ls []) := by
  obtain ⟨hx, hb, hml, hown, hts, hr, hlocks⟩ := id C0
  intro x1 x2 hw H locs hW hS ls hl
  refine lv_iconst (v := 0) hx hb dX8_near_20 (by decide) ?_
  exact hk21 x1 x2 0 hw _ _ hW hS _ hl
set_option maxHeartbeats 4000000 in
set_option maxRecDepth 100000 in
theorem tJ_X8_near_21 {p : Program} {l : Launch} {e : Env} {s : State} {m : MethodId} {args : Array Value} {below : List Frame} {meth : Method} {c : Code} {D : va_G} {cI cZ cG cL : ClassId} {ad : Nat → Nat} (C0 : gk_F p s m args meth c cX8_near 3 (some .int) RX8) (hK : gk_K D cI cZ cG cL s) {σ : gk_C} {Q : Int32 → Prop} : ∀ (x1 : Int32) (x2 : Int32) (t0 : Int32), wJ_X8_near_21 σ Q x1 x2 t0 → ∀ (H : Heap) (locs : List Loc), gk_W D cI ad σ H → va_S (gk_A ad s.heap.size) s.heap H locs → ∀ (ls : Array Slot), lv_has ls 3 [(0, .ref (ad 0)), (1, .int x1), (2, .int x2)] → W p l e rmX8_near s m args below meth c H locs 0 0 (MQ below (va_Qi (fun r u => u = σ ∧ Q r) (gk_B D cI ad) (gk_A ad s.heap.size)) args s 0 0 (gk_A ad s.heap.size)) (F0 m 21 ls [.int t0]) := by
  obtain ⟨hx, hb, hml, hown, hts, hr, hlocks⟩ := id C0
  intro x1 x2 t0 hw H locs hW hS ls hl
  obtain ⟨hc, hw⟩ := hw
  refine gk_callSv ⟨hx, hb, hml, hown, hts⟩ (c0_X8_checkThere l hc) (va_cwS 1 hts (gk_gS ml_X8_76 st_X8_checkThere in_X8 co_X8_checkThere) rfl rfl rfl (by decide +kernel) ⟨Nat.le_of_ble_eq_true rfl, Nat.le_of_ble_eq_true rfl⟩) hS rfl hl.1 (rest := []) rfl (lv_room (Nat.le_of_ble_eq_true rfl)) dX8_near_21 ⟨Nat.zero_le _, Nat.zero_le _⟩ (fun H locs _ hk hS => ?_)
  have hW := hW.kept (fun k hk9 => hk _ (hW.lt hk9))
  refine lv_aload_n hx hb dX8_near_24 rfl (lv_at hl 0 rfl) ?_
  refine gk_get hx hb hts iwX8 hown hK.1 (gk_o0 hW) rfl 0 (by decide) (hts _ fl_X8_10) (fun _ h9 => h9) rfl dX8_near_25 ?_
  refine gk_getN hx hb hts iwX4 hown hK.1 (gk_o1 hW) rfl 1 (by decide) (gk_nw hK nf_X8_62) (fun _ h9 => h9) rfl dX8_near_28 ?_
  refine lv_aload_n hx hb dX8_near_31 rfl (lv_at hl 0 rfl) ?_
  refine gk_get hx hb hts iwX8 hown hK.1 (gk_o0 hW) rfl 0 (by decide) (hts _ fl_X8_10) (fun _ h9 => h9) rfl dX8_near_32 ?_
  refine gk_getN hx hb hts iwX4 hown hK.1 (gk_o1 hW) rfl 0 (by decide) (gk_nw hK nf_X8_45) (fun _ h9 => h9) rfl dX8_near_35 ?_
  refine gk_getN hx hb hts iwX6 hown hK.1 (gk_o2 hW) rfl 3 (by decide) (gk_nw hK nf_X8_95) (fun _ h9 => h9) rfl dX8_near_38 ?_
  refine lv_iload_n hx hb dX8_near_41 rfl (lv_at hl 1 rfl) ?_
  refine gk_callRi ⟨hx, hb, hml, hown, hts⟩ (c_X2_at l D cI cZ cG cL ad (σ := σ) (r := 2) (i := x1) (by decide)) (cwV 1 hts (gk_gV ml_X8_98 im_X2_at se_X2_at in_X2 co_X2_at) rfl rfl rfl (by decide +kernel) ⟨Nat.le_of_ble_eq_true rfl, Nat.le_of_ble_eq_true rfl⟩) (gk_recv hK.1 (gk_or hW (r := 2) (by decide)) rfl) hW hK hS rfl hl.1 (rest := [.ref (ad 3)]) rfl (lv_room (Nat.le_of_ble_eq_true rfl)) dX8_near_42 ⟨Nat.zero_le _, Nat.zero_le _⟩ (fun r42 H locs hq hW _ hS => ?_)
  obtain rfl := hq
  refine lv_iload_n hx hb dX8_near_45 rfl (lv_at hl 2 rfl) ?_
  refine gk_callRi ⟨hx, hb, hml, hown, hts⟩ (c_X1_nearBy l D cI cZ cG cL ad hw) (cwV 2 hts (gk_gV ml_X8_146 im_X1_nearBy se_X1_nearBy in_X1 co_X1_nearBy) rfl rfl rfl (by decide +kernel) ⟨Nat.le_of_ble_eq_true rfl, Nat.le_of_ble_eq_true rfl⟩) (gk_recv hK.1 (gk_o3 hW) rfl) hW hK hS rfl hl.1 (rest := []) rfl (lv_room (Nat.le_of_ble_eq_true rfl)) dX8_near_46 ⟨Nat.zero_le _, Nat.zero_le _⟩ (fun r46 H locs hw hW _ hS => ?_)
  exact gk_reti C0 ⟨rfl, hw⟩ hW hS dX8_near_49
set_option maxHeartbeats 4000000 in
set_option maxRecDepth 100000 in
theorem c_X8_near (l : Launch) (D : va_G) (cI cZ cG cL : ClassId) (ad : Nat → Nat) {σ : gk_C} {a0 : Int32} {a1 : Int32} {Q : Int32 → Prop} {sz : Nat} (hw : w_X8_near σ a0 a1 Q) : Met l yX8_near wsX8_near rmX8_near (gk_Pc D cI cZ cG cL ad [.ref (ad 0), .int a0, .int a1] sz σ) (va_Qi (fun r u => u = σ ∧ Q r) (gk_B D cI ad) (gk_A ad sz)) 0 0 (gk_A ad sz) := by
  refine Met.ofW (cc := cX8_near) (maxL := 3) (ret := (some .int)) (by decide) rfl ?_
  intro p e s m args below meth c s₁ B hml0 hv0
  obtain ⟨rfl, hsz, hW, hK⟩ := hv0
  subst hsz
  have C0 : gk_F p s m ([.ref (ad 0), .int a0, .int a1] : List Value).toArray meth c cX8_near 3 (some .int) RX8 := ⟨B.exec, B.bytes, hml0, findClass_of_methodNamed B.named, fun w hw => atoms_spec (ws := wsX8_near) B.pre w (List.mem_cons_of_mem _ hw), B.returns, B.notSynchronized⟩
  obtain ⟨hx, hb, hml, hown, hts, hr, hlocks⟩ := id C0
  have hS : va_S (gk_A ad s.heap.size) s.heap s.heap [] := va_S.rf
  have hl := lv_entry ([.ref (ad 0), .int a0, .int a1]) (n := 3) (Nat.le_of_ble_eq_true rfl)
  rw [lg_entry_eq]
  generalize (lg_sl ([.ref (ad 0), .int a0, .int a1]) ++ List.replicate (3 - (lg_sl ([.ref (ad 0), .int a0, .int a1])).length) Slot.unset).toArray = ls at hl ⊢
  have hl : lv_has ls 3 [(0, .ref (ad 0)), (1, .int a0), (2, .int a1)] := hl
  show W p l e rmX8_near s m _ below meth c s.heap [] 0 0 _ _
  refine lv_aload_n hx hb dX8_near_0 rfl (lv_at hl 0 rfl) ?_
  refine lv_iload_n hx hb dX8_near_1 rfl (lv_at hl 1 rfl) ?_
  refine gk_callRi ⟨hx, hb, hml, hown, hts⟩ (c_X8_isUser l D cI cZ cG cL ad hw) (cwV 1 hts (gk_gV ml_X8_89 im_X8_isUser se_X8_isUser in_X8 co_X8_isUser) rfl rfl rfl (by decide +kernel) ⟨Nat.le_of_ble_eq_true rfl, Nat.le_of_ble_eq_true rfl⟩) (gk_recv hK.1 (gk_o0 hW) rfl) hW hK hS rfl hl.1 (rest := []) rfl (lv_room (Nat.le_of_ble_eq_true rfl)) dX8_near_2 ⟨Nat.zero_le _, Nat.zero_le _⟩ (fun r2 H locs hw hW _ hS => ?_)
  refine lv_if_eq (tgt := 20) hx hb dX8_near_5 (by decide) (fun c5 => ?_) (fun c5 => ?_)
  · have hw := hw.1 c5
    refine tJ_X8_near_20 C0 hK (hk21 := ?_) a0 a1 hw _ _ hW hS _ hl
    · intro x1 x2 t0 hw H locs hW hS ls hl
      refine tJ_X8_near_21 C0 hK  x1 x2 t0 hw _ _ hW hS _ hl
  · have hw := hw.2 c5
    refine lv_aload_n hx hb dX8_near_8 rfl (lv_at hl 0 rfl) ?_
    refine lv_iload_n hx hb dX8_near_9 rfl (lv_at hl 2 rfl) ?_
    refine gk_callRi ⟨hx, hb, hml, hown, hts⟩ (c_X8_isRole l D cI cZ cG cL ad hw) (cwV 1 hts (gk_gV ml_X8_92 im_X8_isRole se_X8_isRole in_X8 co_X8_isRole) rfl rfl rfl (by decide +kernel) ⟨Nat.le_of_ble_eq_true rfl, Nat.le_of_ble_eq_true rfl⟩) (gk_recv hK.1 (gk_o0 hW) rfl) hW hK hS rfl hl.1 (rest := []) rfl (lv_room (Nat.le_of_ble_eq_true rfl)) dX8_near_10 ⟨Nat.zero_le _, Nat.zero_le _⟩ (fun r10 H locs hw hW _ hS => ?_)
    refine lv_if_eq (tgt := 20) hx hb dX8_near_13 (by decide) (fun c13 => ?_) (fun c13 => ?_)
    · have hw := hw.1 c13
      refine tJ_X8_near_20 C0 hK (hk21 := ?_) a0 a1 hw _ _ hW hS _ hl
      · intro x1 x2 t0 hw H locs hW hS ls hl
        refine tJ_X8_near_21 C0 hK  x1 x2 t0 hw _ _ hW hS _ hl
    · have hw := hw.2 c13
      refine lv_iconst (v := 1) hx hb dX8_near_16 (by decide) ?_
      refine lv_goto (tgt := 21) hx hb dX8_near_17 (by decide) ?_
      refine tJ_X8_near_21 C0 hK  a0 a1 1 hw _ _ hW hS _ hl
def wJ_X8_far_20 (σ : gk_C) (k21 : Int32 → Int32 → Int32 → Prop) (x1 : Int32) (x2 : Int32) : Prop := (k21 x1 x2 0)
def wJ_X8_far_21 (σ : gk_C) (Q : Int32 → Prop) (x1 : Int32) (x2 : Int32) (t0 : Int32) : Prop := ((¬ t0 = 0) ∧ w_X5_farUp σ x1 x2 (fun r33 => Q r33))
def w_X8_far (σ : gk_C) (a0 : Int32) (a1 : Int32) (Q : Int32 → Prop) : Prop := (w_X8_isResource σ a0 (fun r2 => ((r2 = 0) → (wJ_X8_far_20 σ (fun x1 x2 t0 => (wJ_X8_far_21 σ Q x1 x2 t0)) a0 a1)) ∧ ((¬ r2 = 0) → (w_X8_isResource σ a1 (fun r10 => ((r10 = 0) → (wJ_X8_far_20 σ (fun x1 x2 t0 => (wJ_X8_far_21 σ Q x1 x2 t0)) a0 a1)) ∧ ((¬ r10 = 0) → (wJ_X8_far_21 σ Q a0 a1 1)))))))
abbrev rmX8_far : Room := { frames := 3, cells := 0, slots := 0, locals := 65 }
set_option maxHeartbeats 4000000 in
set_option maxRecDepth 100000 in
theorem tJ_X8_far_20 {p : Program} {l : Launch} {e : Env} {s : State} {m : MethodId} {args : Array Value} {below : List Frame} {meth : Method} {c : Code} {D : va_G} {cI cZ cG cL : ClassId} {ad : Nat → Nat} (C0 : gk_F p s m args meth c cX8_far 3 (some .int) RX8) (hK : gk_K D cI cZ cG cL s) {σ : gk_C} {Q : Int32 → Prop} {k21 : Int32 → Int32 → Int32 → Prop} (hk21 : ∀ (x1 : Int32) (x2 : Int32) (t0 : Int32), k21 x1 x2 t0 → ∀ (H : Heap) (locs : List Loc), gk_W D cI ad σ H → va_S (gk_A ad s.heap.size) s.heap H locs → ∀ (ls : Array Slot), lv_has ls 3 [(0, .ref (ad 0)), (1, .int x1), (2, .int x2)] → W p l e rmX8_far s m args below meth c H locs 0 0 (MQ below (va_Qi (fun r u => u = σ ∧ Q r) (gk_B D cI ad) (gk_A ad s.heap.size)) args s 0 0 (gk_A ad s.heap.size)) (F0 m 21 ls [.int t0])) : ∀ (x1 : Int32) (x2 : Int32), wJ_X8_far_20 σ k21 x1 x2 → ∀ (H : Heap) (locs : List Loc), gk_W D cI ad σ H → va_S (gk_A ad s.heap.size) s.heap H locs → ∀ (ls : Array Slot), lv_has ls 3 [(0, .ref (ad 0)), (1, .int x1), (2, .int x2)] → W p l e rmX8_far s m args below meth c H locs 0 0 (MQ below (va_Qi (fun r u => u = σ ∧ Q r) (gk_B D cI ad) (gk_A ad s.heap.size)) args s 0 0 (gk_A ad s.heap.size)) (F0 m 20 ls []) := by
  obtain ⟨hx, hb, hml, hown, hts, hr, hlocks⟩ := id C0
  intro x1 x2 hw H locs hW hS ls hl
  refine lv_iconst (v := 0) hx hb dX8_far_20 (by decide) ?_
  exact hk21 x1 x2 0 hw _ _ hW hS _ hl
set_option maxHeartbeats 4000000 in
set_option maxRecDepth 100000 in
theorem tJ_X8_far_21 {p : Program} {l : Launch} {e : Env} {s : State} {m : MethodId} {args : Array Value} {below : List Frame} {meth : Method} {c : Code} {D : va_G} {cI cZ cG cL : ClassId} {ad : Nat → Nat} (C0 : gk_F p s m args meth c cX8_far 3 (some .int) RX8) (hK : gk_K D cI cZ cG cL s) {σ : gk_C} {Q : Int32 → Prop} : ∀ (x1 : Int32) (x2 : Int32) (t0 : Int32), wJ_X8_far_21 σ Q x1 x2 t0 → ∀ (H : Heap) (locs : List Loc), gk_W D cI ad σ H → va_S (gk_A ad s.heap.size) s.heap H locs → ∀ (ls : Array Slot), lv_has ls 3 [(0, .ref (ad 0)), (1, .int x1), (2, .int x2)] → W p l e rmX8_far s m args below meth c H locs 0 0 (MQ below (va_Qi (fun r u => u = σ ∧ Q r) (gk_B D cI ad) (gk_A ad s.heap.size)) args s 0 0 (gk_A ad s.heap.size)) (F0 m 21 ls [.int t0]) := by
  obtain ⟨hx, hb, hml, hown, hts, hr, hlocks⟩ := id C0
  intro x1 x2 t0 hw H locs hW hS ls hl
  obtain ⟨hc, hw⟩ := hw
  refine gk_callSv ⟨hx, hb, hml, hown, hts⟩ (c0_X8_checkThere l hc) (va_cwS 1 hts (gk_gS ml_X8_76 st_X8_checkThere in_X8 co_X8_checkThere) rfl rfl rfl (by decide +kernel) ⟨Nat.le_of_ble_eq_true rfl, Nat.le_of_ble_eq_true rfl⟩) hS rfl hl.1 (rest := []) rfl (lv_room (Nat.le_of_ble_eq_true rfl)) dX8_far_21 ⟨Nat.zero_le _, Nat.zero_le _⟩ (fun H locs _ hk hS => ?_)
  have hW := hW.kept (fun k hk9 => hk _ (hW.lt hk9))
  refine lv_aload_n hx hb dX8_far_24 rfl (lv_at hl 0 rfl) ?_
  refine gk_get hx hb hts iwX8 hown hK.1 (gk_o0 hW) rfl 0 (by decide) (hts _ fl_X8_10) (fun _ h9 => h9) rfl dX8_far_25 ?_
  refine gk_getN hx hb hts iwX4 hown hK.1 (gk_o1 hW) rfl 2 (by decide) (gk_nw hK nf_X8_79) (fun _ h9 => h9) rfl dX8_far_28 ?_
  refine lv_iload_n hx hb dX8_far_31 rfl (lv_at hl 1 rfl) ?_
  refine lv_iload_n hx hb dX8_far_32 rfl (lv_at hl 2 rfl) ?_
  refine gk_callRi ⟨hx, hb, hml, hown, hts⟩ (c_X5_farUp l D cI cZ cG cL ad hw) (cwV 2 hts (gk_gV ml_X8_149 im_X5_farUp se_X5_farUp in_X5 co_X5_farUp) rfl rfl rfl (by decide +kernel) ⟨Nat.le_of_ble_eq_true rfl, Nat.le_of_ble_eq_true rfl⟩) (gk_recv hK.1 (gk_o4 hW) rfl) hW hK hS rfl hl.1 (rest := []) rfl (lv_room (Nat.le_of_ble_eq_true rfl)) dX8_far_33 ⟨Nat.zero_le _, Nat.zero_le _⟩ (fun r33 H locs hw hW _ hS => ?_)
  exact gk_reti C0 ⟨rfl, hw⟩ hW hS dX8_far_36
set_option maxHeartbeats 4000000 in
set_option maxRecDepth 100000 in
theorem c_X8_far (l : Launch) (D : va_G) (cI cZ cG cL : ClassId) (ad : Nat → Nat) {σ : gk_C} {a0 : Int32} {a1 : Int32} {Q : Int32 → Prop} {sz : Nat} (hw : w_X8_far σ a0 a1 Q) : Met l yX8_far wsX8_far rmX8_far (gk_Pc D cI cZ cG cL ad [.ref (ad 0), .int a0, .int a1] sz σ) (va_Qi (fun r u => u = σ ∧ Q r) (gk_B D cI ad) (gk_A ad sz)) 0 0 (gk_A ad sz) := by
  refine Met.ofW (cc := cX8_far) (maxL := 3) (ret := (some .int)) (by decide) rfl ?_
  intro p e s m args below meth c s₁ B hml0 hv0
  obtain ⟨rfl, hsz, hW, hK⟩ := hv0
  subst hsz
  have C0 : gk_F p s m ([.ref (ad 0), .int a0, .int a1] : List Value).toArray meth c cX8_far 3 (some .int) RX8 := ⟨B.exec, B.bytes, hml0, findClass_of_methodNamed B.named, fun w hw => atoms_spec (ws := wsX8_far) B.pre w (List.mem_cons_of_mem _ hw), B.returns, B.notSynchronized⟩
  obtain ⟨hx, hb, hml, hown, hts, hr, hlocks⟩ := id C0
  have hS : va_S (gk_A ad s.heap.size) s.heap s.heap [] := va_S.rf
  have hl := lv_entry ([.ref (ad 0), .int a0, .int a1]) (n := 3) (Nat.le_of_ble_eq_true rfl)
  rw [lg_entry_eq]
  generalize (lg_sl ([.ref (ad 0), .int a0, .int a1]) ++ List.replicate (3 - (lg_sl ([.ref (ad 0), .int a0, .int a1])).length) Slot.unset).toArray = ls at hl ⊢
  have hl : lv_has ls 3 [(0, .ref (ad 0)), (1, .int a0), (2, .int a1)] := hl
  show W p l e rmX8_far s m _ below meth c s.heap [] 0 0 _ _
  refine lv_aload_n hx hb dX8_far_0 rfl (lv_at hl 0 rfl) ?_
  refine lv_iload_n hx hb dX8_far_1 rfl (lv_at hl 1 rfl) ?_
  refine gk_callRi ⟨hx, hb, hml, hown, hts⟩ (c_X8_isResource l D cI cZ cG cL ad hw) (cwV 1 hts (gk_gV ml_X8_72 im_X8_isResource se_X8_isResource in_X8 co_X8_isResource) rfl rfl rfl (by decide +kernel) ⟨Nat.le_of_ble_eq_true rfl, Nat.le_of_ble_eq_true rfl⟩) (gk_recv hK.1 (gk_o0 hW) rfl) hW hK hS rfl hl.1 (rest := []) rfl (lv_room (Nat.le_of_ble_eq_true rfl)) dX8_far_2 ⟨Nat.zero_le _, Nat.zero_le _⟩ (fun r2 H locs hw hW _ hS => ?_)
  refine lv_if_eq (tgt := 20) hx hb dX8_far_5 (by decide) (fun c5 => ?_) (fun c5 => ?_)
  · have hw := hw.1 c5
    refine tJ_X8_far_20 C0 hK (hk21 := ?_) a0 a1 hw _ _ hW hS _ hl
    · intro x1 x2 t0 hw H locs hW hS ls hl
      refine tJ_X8_far_21 C0 hK  x1 x2 t0 hw _ _ hW hS _ hl
  · have hw := hw.2 c5
    refine lv_aload_n hx hb dX8_far_8 rfl (lv_at hl 0 rfl) ?_
    refine lv_iload_n hx hb dX8_far_9 rfl (lv_at hl 2 rfl) ?_
    refine gk_callRi ⟨hx, hb, hml, hown, hts⟩ (c_X8_isResource l D cI cZ cG cL ad hw) (cwV 1 hts (gk_gV ml_X8_72 im_X8_isResource se_X8_isResource in_X8 co_X8_isResource) rfl rfl rfl (by decide +kernel) ⟨Nat.le_of_ble_eq_true rfl, Nat.le_of_ble_eq_true rfl⟩) (gk_recv hK.1 (gk_o0 hW) rfl) hW hK hS rfl hl.1 (rest := []) rfl (lv_room (Nat.le_of_ble_eq_true rfl)) dX8_far_10 ⟨Nat.zero_le _, Nat.zero_le _⟩ (fun r10 H locs hw hW _ hS => ?_)
    refine lv_if_eq (tgt := 20) hx hb dX8_far_13 (by decide) (fun c13 => ?_) (fun c13 => ?_)
    · have hw := hw.1 c13
      refine tJ_X8_far_20 C0 hK (hk21 := ?_) a0 a1 hw _ _ hW hS _ hl
      · intro x1 x2 t0 hw H locs hW hS ls hl
        refine tJ_X8_far_21 C0 hK  x1 x2 t0 hw _ _ hW hS _ hl
    · have hw := hw.2 c13
      refine lv_iconst (v := 1) hx hb dX8_far_16 (by decide) ?_
      refine lv_goto (tgt := 21) hx hb dX8_far_17 (by decide) ?_
      refine tJ_X8_far_21 C0 hK  a0 a1 1 hw _ _ hW hS _ hl
def wJ_X8_addRule_41 (k42 : gk_C → Int32 → Int32 → Int32 → Int32 → Int32 → Prop) (σ : gk_C) (x1 : Int32) (x2 : Int32) (x3 : Int32) (x4 : Int32) : Prop := (k42 σ x1 x2 x3 x4 0)
def wJ_X8_addRule_60 (k61 : gk_C → Int32 → Int32 → Int32 → Int32 → Int32 → Prop) (σ : gk_C) (x1 : Int32) (x2 : Int32) (x3 : Int32) (x4 : Int32) : Prop := (k61 σ x1 x2 x3 x4 0)
def wJ_X8_addRule_84 (Q : Int32 → gk_C → Prop) (σ : gk_C) (x1 : Int32) (x2 : Int32) (x3 : Int32) (x4 : Int32) (t0 : Int32) : Prop := ((¬ t0 = 0) ∧ w_X3_add σ x1 x2 x3 x4 (fun r99 σ99 => Q r99 σ99))
def wJ_X8_addRule_61 (Q : Int32 → gk_C → Prop) (σ : gk_C) (x1 : Int32) (x2 : Int32) (x3 : Int32) (x4 : Int32) (t0 : Int32) : Prop := ((¬ t0 = 0) ∧ ((30 ≤ (σ.2 4)) → (wJ_X8_addRule_84 Q σ x1 x2 x3 x4 0)) ∧ ((¬ 30 ≤ (σ.2 4)) → (wJ_X8_addRule_84 Q σ x1 x2 x3 x4 1)))
def wJ_X8_addRule_42 (Q : Int32 → gk_C → Prop) (σ : gk_C) (x1 : Int32) (x2 : Int32) (x3 : Int32) (x4 : Int32) (t0 : Int32) : Prop := ((¬ t0 = 0) ∧ ((x3 < 1) → (wJ_X8_addRule_60 (fun σ x1 x2 x3 x4 t0 => (wJ_X8_addRule_61 Q σ x1 x2 x3 x4 t0)) σ x1 x2 x3 x4)) ∧ ((¬ x3 < 1) → (((31 < x3) → (wJ_X8_addRule_60 (fun σ x1 x2 x3 x4 t0 => (wJ_X8_addRule_61 Q σ x1 x2 x3 x4 t0)) σ x1 x2 x3 x4)) ∧ ((¬ 31 < x3) → (wJ_X8_addRule_61 Q σ x1 x2 x3 x4 1)))))
def wJ_X8_addRule_28 (k41 : gk_C → Int32 → Int32 → Int32 → Int32 → Prop) (k42 : gk_C → Int32 → Int32 → Int32 → Int32 → Int32 → Prop) (σ : gk_C) (x1 : Int32) (x2 : Int32) (x3 : Int32) (x4 : Int32) : Prop := (w_X8_isResource σ x4 (fun r31 => ((r31 = 0) → (k41 σ x1 x2 x3 x4)) ∧ ((¬ r31 = 0) → (k42 σ x1 x2 x3 x4 1))))
def w_X8_addRule (σ : gk_C) (a0 : Int32) (a1 : Int32) (a2 : Int32) (a3 : Int32) (Q : Int32 → gk_C → Prop) : Prop := (((12 ≤ a1) → (w_X8_isRole σ (a1 - 12) (fun r22 => ((r22 = 0) → (wJ_X8_addRule_41 (fun σ x1 x2 x3 x4 t0 => (wJ_X8_addRule_42 Q σ x1 x2 x3 x4 t0)) σ a0 a1 a2 a3)) ∧ ((¬ r22 = 0) → (wJ_X8_addRule_28 (fun σ x1 x2 x3 x4 => (wJ_X8_addRule_41 (fun σ x1 x2 x3 x4 t0 => (wJ_X8_addRule_42 Q σ x1 x2 x3 x4 t0)) σ x1 x2 x3 x4)) (fun σ x1 x2 x3 x4 t0 => (wJ_X8_addRule_42 Q σ x1 x2 x3 x4 t0)) σ a0 a1 a2 a3))))) ∧ ((¬ 12 ≤ a1) → (w_X8_isUser σ a1 (fun r8 => ((r8 = 0) → (wJ_X8_addRule_41 (fun σ x1 x2 x3 x4 t0 => (wJ_X8_addRule_42 Q σ x1 x2 x3 x4 t0)) σ a0 a1 a2 a3)) ∧ ((¬ r8 = 0) → (wJ_X8_addRule_28 (fun σ x1 x2 x3 x4 => (wJ_X8_addRule_41 (fun σ x1 x2 x3 x4 t0 => (wJ_X8_addRule_42 Q σ x1 x2 x3 x4 t0)) σ x1 x2 x3 x4)) (fun σ x1 x2 x3 x4 t0 => (wJ_X8_addRule_42 Q σ x1 x2 x3 x4 t0)) σ a0 a1 a2 a3))))))
abbrev rmX8_addRule : Room := { frames := 2, cells := 0, slots := 0, locals := 47 }
set_option maxHeartbeats 4000000 in
set_option maxRecDepth 100000 in
theorem tJ_X8_addRule_41 {p : Program} {l : Launch} {e : Env} {s : State} {m : MethodId} {args : Array Value} {below : List Frame} {meth : Method} {c : Code} {D : va_G} {cI cZ cG cL : ClassId} {ad : Nat → Nat} (C0 : gk_F p s m args meth c cX8_addRule 5 (some .int) RX8) (hK : gk_K D cI cZ cG cL s) {Q : Int32 → gk_C → Prop} {k42 : gk_C → Int32 → Int32 → Int32 → Int32 → Int32 → Prop} (hk42 : ∀ (σ : gk_C) (x1 : Int32) (x2 : Int32) (x3 : Int32) (x4 : Int32) (t0 : Int32), k42 σ x1 x2 x3 x4 t0 → ∀ (H : Heap) (locs : List Loc), gk_W D cI ad σ H → va_S (gk_A ad s.heap.size) s.heap H locs → ∀ (ls : Array Slot), lv_has ls 5 [(0, .ref (ad 0)), (1, .int x1), (2, .int x2), (3, .int x3), (4, .int x4)] → W p l e rmX8_addRule s m args below meth c H locs 0 0 (MQ below (va_Qi (fun r u => Q r u) (gk_B D cI ad) (gk_A ad s.heap.size)) args s 0 0 (gk_A ad s.heap.size)) (F0 m 42 ls [.int t0])) : ∀ (σ : gk_C) (x1 : Int32) (x2 : Int32) (x3 : Int32) (x4 : Int32), wJ_X8_addRule_41 k42 σ x1 x2 x3 x4 → ∀ (H : Heap) (locs : List Loc), gk_W D cI ad σ H → va_S (gk_A ad s.heap.size) s.heap H locs → ∀ (ls : Array Slot), lv_has ls 5 [(0, .ref (ad 0)), (1, .int x1), (2, .int x2), (3, .int x3), (4, .int x4)] → W p l e rmX8_addRule s m args below meth c H locs 0 0 (MQ below (va_Qi (fun r u => Q r u) (gk_B D cI ad) (gk_A ad s.heap.size)) args s 0 0 (gk_A ad s.heap.size)) (F0 m 41 ls []) := by
  obtain ⟨hx, hb, hml, hown, hts, hr, hlocks⟩ := id C0
  intro σ x1 x2 x3 x4 hw H locs hW hS ls hl
  refine lv_iconst (v := 0) hx hb dX8_addRule_41 (by decide) ?_
  exact hk42 σ x1 x2 x3 x4 0 hw _ _ hW hS _ hl
set_option maxHeartbeats 4000000 in
set_option maxRecDepth 100000 in
theorem tJ_X8_addRule_60 {p : Program} {l : Launch} {e : Env} {s : State} {m : MethodId} {args : Array Value} {below : List Frame} {meth : Method} {c : Code} {D : va_G} {cI cZ cG cL : ClassId} {ad : Nat → Nat} (C0 : gk_F p s m args meth c cX8_addRule 5 (some .int) RX8) (hK : gk_K D cI cZ cG cL s) {Q : Int32 → gk_C → Prop} {k61 : gk_C → Int32 → Int32 → Int32 → Int32 → Int32 → Prop} (hk61 : ∀ (σ : gk_C) (x1 : Int32) (x2 : Int32) (x3 : Int32) (x4 : Int32) (t0 : Int32), k61 σ x1 x2 x3 x4 t0 → ∀ (H : Heap) (locs : List Loc), gk_W D cI ad σ H → va_S (gk_A ad s.heap.size) s.heap H locs → ∀ (ls : Array Slot), lv_has ls 5 [(0, .ref (ad 0)), (1, .int x1), (2, .int x2), (3, .int x3), (4, .int x4)] → W p l e rmX8_addRule s m args below meth c H locs 0 0 (MQ below (va_Qi (fun r u => Q r u) (gk_B D cI ad) (gk_A ad s.heap.size)) args s 0 0 (gk_A ad s.heap.size)) (F0 m 61 ls [.int t0])) : ∀ (σ : gk_C) (x1 : Int32) (x2 : Int32) (x3 : Int32) (x4 : Int32), wJ_X8_addRule_60 k61 σ x1 x2 x3 x4 → ∀ (H : Heap) (locs : List Loc), gk_W D cI ad σ H → va_S (gk_A ad s.heap.size) s.heap H locs → ∀ (ls : Array Slot), lv_has ls 5 [(0, .ref (ad 0)), (1, .int x1), (2, .int x2), (3, .int x3), (4, .int x4)] → W p l e rmX8_addRule s m args below meth c H locs 0 0 (MQ below (va_Qi (fun r u => Q r u) (gk_B D cI ad) (gk_A ad s.heap.size)) args s 0 0 (gk_A ad s.heap.size)) (F0 m 60 ls []) := by
  obtain ⟨hx, hb, hml, hown, hts, hr, hlocks⟩ := id C0
  intro σ x1 x2 x3 x4 hw H locs hW hS ls hl
  refine lv_iconst (v := 0) hx hb dX8_addRule_60 (by decide) ?_
  exact hk61 σ x1 x2 x3 x4 0 hw _ _ hW hS _ hl
set_option maxHeartbeats 4000000 in
set_option maxRecDepth 100000 in
theorem tJ_X8_addRule_84 {p : Program} {l : Launch} {e : Env} {s : State} {m : MethodId} {args : Array Value} {below : List Frame} {meth : Method} {c : Code} {D : va_G} {cI cZ cG cL : ClassId} {ad : Nat → Nat} (C0 : gk_F p s m args meth c cX8_addRule 5 (some .int) RX8) (hK : gk_K D cI cZ cG cL s) {Q : Int32 → gk_C → Prop} : ∀ (σ : gk_C) (x1 : Int32) (x2 : Int32) (x3 : Int32) (x4 : Int32) (t0 : Int32), wJ_X8_addRule_84 Q σ x1 x2 x3 x4 t0 → ∀ (H : Heap) (locs : List Loc), gk_W D cI ad σ H → va_S (gk_A ad s.heap.size) s.heap H locs → ∀ (ls : Array Slot), lv_has ls 5 [(0, .ref (ad 0)), (1, .int x1), (2, .int x2), (3, .int x3), (4, .int x4)] → W p l e rmX8_addRule s m args below meth c H locs 0 0 (MQ below (va_Qi (fun r u => Q r u) (gk_B D cI ad) (gk_A ad s.heap.size)) args s 0 0 (gk_A ad s.heap.size)) (F0 m 84 ls [.int t0]) := by
  obtain ⟨hx, hb, hml, hown, hts, hr, hlocks⟩ := id C0
  intro σ x1 x2 x3 x4 t0 hw H locs hW hS ls hl
  obtain ⟨hc, hw⟩ := hw
  refine gk_callSv ⟨hx, hb, hml, hown, hts⟩ (c0_X8_checkState l hc) (va_cwS 1 hts (gk_gS ml_X8_55 st_X8_checkState in_X8 co_X8_checkState) rfl rfl rfl (by decide +kernel) ⟨Nat.le_of_ble_eq_true rfl, Nat.le_of_ble_eq_true rfl⟩) hS rfl hl.1 (rest := []) rfl (lv_room (Nat.le_of_ble_eq_true rfl)) dX8_addRule_84 ⟨Nat.zero_le _, Nat.zero_le _⟩ (fun H locs _ hk hS => ?_)
  have hW := hW.kept (fun k hk9 => hk _ (hW.lt hk9))
  refine lv_aload_n hx hb dX8_addRule_87 rfl (lv_at hl 0 rfl) ?_
  refine gk_get hx hb hts iwX8 hown hK.1 (gk_o0 hW) rfl 0 (by decide) (hts _ fl_X8_10) (fun _ h9 => h9) rfl dX8_addRule_88 ?_
  refine gk_getN hx hb hts iwX4 hown hK.1 (gk_o1 hW) rfl 3 (by decide) (gk_nw hK nf_X8_152) (fun _ h9 => h9) rfl dX8_addRule_91 ?_
  refine lv_iload_n hx hb dX8_addRule_94 rfl (lv_at hl 1 rfl) ?_
  refine lv_iload_n hx hb dX8_addRule_95 rfl (lv_at hl 2 rfl) ?_
  refine lv_iload_n hx hb dX8_addRule_96 rfl (lv_at hl 3 rfl) ?_
  refine lv_iload hx hb dX8_addRule_97 (lv_at hl 4 rfl) ?_
  refine gk_callVi ⟨hx, hb, hml, hown, hts⟩ (c_X3_add l D cI cZ cG cL ad hw) (cwV 4 hts (gk_gV ml_X8_159 im_X3_add se_X3_add in_X3 co_X3_add) rfl rfl rfl (by decide +kernel) ⟨Nat.le_of_ble_eq_true rfl, Nat.le_of_ble_eq_true rfl⟩) (gk_recv hK.1 (gk_o5 hW) rfl) hW hK hS rfl hl.1 (rest := []) rfl (lv_room (Nat.le_of_ble_eq_true rfl)) dX8_addRule_99 ⟨Nat.zero_le _, Nat.zero_le _⟩ (fun r99 σ99 H locs hw hW _ hS => ?_)
  exact gk_reti C0 hw hW hS dX8_addRule_102
set_option maxHeartbeats 4000000 in
set_option maxRecDepth 100000 in
theorem tJ_X8_addRule_61 {p : Program} {l : Launch} {e : Env} {s : State} {m : MethodId} {args : Array Value} {below : List Frame} {meth : Method} {c : Code} {D : va_G} {cI cZ cG cL : ClassId} {ad : Nat → Nat} (C0 : gk_F p s m args meth c cX8_addRule 5 (some .int) RX8) (hK : gk_K D cI cZ cG cL s) {Q : Int32 → gk_C → Prop} : ∀ (σ : gk_C) (x1 : Int32) (x2 : Int32) (x3 : Int32) (x4 : Int32) (t0 : Int32), wJ_X8_addRule_61 Q σ x1 x2 x3 x4 t0 → ∀ (H : Heap) (locs : List Loc), gk_W D cI ad σ H → va_S (gk_A ad s.heap.size) s.heap H locs → ∀ (ls : Array Slot), lv_has ls 5 [(0, .ref (ad 0)), (1, .int x1), (2, .int x2), (3, .int x3), (4, .int x4)] → W p l e rmX8_addRule s m args below meth c H locs 0 0 (MQ below (va_Qi (fun r u => Q r u) (gk_B D cI ad) (gk_A ad s.heap.size)) args s 0 0 (gk_A ad s.heap.size)) (F0 m 61 ls [.int t0]) := by
  obtain ⟨hx, hb, hml, hown, hts, hr, hlocks⟩ := id C0
  intro σ x1 x2 x3 x4 t0 hw H locs hW hS ls hl
  obtain ⟨hc, hw⟩ := hw
  refine gk_callSv ⟨hx, hb, hml, hown, hts⟩ (c0_X8_checkArguments l hc) (va_cwS 1 hts (gk_gS ml_X8_41 st_X8_checkArguments in_X8 co_X8_checkArguments) rfl rfl rfl (by decide +kernel) ⟨Nat.le_of_ble_eq_true rfl, Nat.le_of_ble_eq_true rfl⟩) hS rfl hl.1 (rest := []) rfl (lv_room (Nat.le_of_ble_eq_true rfl)) dX8_addRule_61 ⟨Nat.zero_le _, Nat.zero_le _⟩ (fun H locs _ hk hS => ?_)
  have hW := hW.kept (fun k hk9 => hk _ (hW.lt hk9))
  refine lv_aload_n hx hb dX8_addRule_64 rfl (lv_at hl 0 rfl) ?_
  refine gk_get hx hb hts iwX8 hown hK.1 (gk_o0 hW) rfl 0 (by decide) (hts _ fl_X8_10) (fun _ h9 => h9) rfl dX8_addRule_65 ?_
  refine gk_getN hx hb hts iwX4 hown hK.1 (gk_o1 hW) rfl 3 (by decide) (gk_nw hK nf_X8_152) (fun _ h9 => h9) rfl dX8_addRule_68 ?_
  refine gk_getN hx hb hts iwX3 hown hK.1 (gk_o5 hW) rfl 0 (by decide) (gk_nw hK nf_X8_156) (fun _ h9 => h9) rfl dX8_addRule_71 ?_
  refine lv_bipush (v := 30) hx hb dX8_addRule_74 (by decide) ?_
  refine lv_icmp_ge (tgt := 83) hx hb dX8_addRule_76 (by decide) (fun c76 => ?_) (fun c76 => ?_)
  · have hw := hw.1 c76
    refine lv_iconst (v := 0) hx hb dX8_addRule_83 (by decide) ?_
    refine tJ_X8_addRule_84 C0 hK  σ x1 x2 x3 x4 0 hw _ _ hW hS _ hl
  · have hw := hw.2 c76
    refine lv_iconst (v := 1) hx hb dX8_addRule_79 (by decide) ?_
    refine lv_goto (tgt := 84) hx hb dX8_addRule_80 (by decide) ?_
    refine tJ_X8_addRule_84 C0 hK  σ x1 x2 x3 x4 1 hw _ _ hW hS _ hl
set_option maxHeartbeats 4000000 in
set_option maxRecDepth 100000 in
theorem tJ_X8_addRule_42 {p : Program} {l : Launch} {e : Env} {s : State} {m : MethodId} {args : Array Value} {below : List Frame} {meth : Method} {c : Code} {D : va_G} {cI cZ cG cL : ClassId} {ad : Nat → Nat} (C0 : gk_F p s m args meth c cX8_addRule 5 (some .int) RX8) (hK : gk_K D cI cZ cG cL s) {Q : Int32 → gk_C → Prop} : ∀ (σ : gk_C) (x1 : Int32) (x2 : Int32) (x3 : Int32) (x4 : Int32) (t0 : Int32), wJ_X8_addRule_42 Q σ x1 x2 x3 x4 t0 → ∀ (H : Heap) (locs : List Loc), gk_W D cI ad σ H → va_S (gk_A ad s.heap.size) s.heap H locs → ∀ (ls : Array Slot), lv_has ls 5 [(0, .ref (ad 0)), (1, .int x1), (2, .int x2), (3, .int x3), (4, .int x4)] → W p l e rmX8_addRule s m args below meth c H locs 0 0 (MQ below (va_Qi (fun r u => Q r u) (gk_B D cI ad) (gk_A ad s.heap.size)) args s 0 0 (gk_A ad s.heap.size)) (F0 m 42 ls [.int t0]) := by
  obtain ⟨hx, hb, hml, hown, hts, hr, hlocks⟩ := id C0
  intro σ x1 x2 x3 x4 t0 hw H locs hW hS ls hl
  obtain ⟨hc, hw⟩ := hw
  refine gk_callSv ⟨hx, hb, hml, hown, hts⟩ (c0_X8_checkThere l hc) (va_cwS 1 hts (gk_gS ml_X8_76 st_X8_checkThere in_X8 co_X8_checkThere) rfl rfl rfl (by decide +kernel) ⟨Nat.le_of_ble_eq_true rfl, Nat.le_of_ble_eq_true rfl⟩) hS rfl hl.1 (rest := []) rfl (lv_room (Nat.le_of_ble_eq_true rfl)) dX8_addRule_42 ⟨Nat.zero_le _, Nat.zero_le _⟩ (fun H locs _ hk hS => ?_)
  have hW := hW.kept (fun k hk9 => hk _ (hW.lt hk9))
  refine lv_iload_n hx hb dX8_addRule_45 rfl (lv_at hl 3 rfl) ?_
  refine lv_iconst (v := 1) hx hb dX8_addRule_46 (by decide) ?_
  refine lv_icmp_lt (tgt := 60) hx hb dX8_addRule_47 (by decide) (fun c47 => ?_) (fun c47 => ?_)
  · have hw := hw.1 c47
    refine tJ_X8_addRule_60 C0 hK (hk61 := ?_) σ x1 x2 x3 x4 hw _ _ hW hS _ hl
    · intro σ x1 x2 x3 x4 t0 hw H locs hW hS ls hl
      refine tJ_X8_addRule_61 C0 hK  σ x1 x2 x3 x4 t0 hw _ _ hW hS _ hl
  · have hw := hw.2 c47
    refine lv_iload_n hx hb dX8_addRule_50 rfl (lv_at hl 3 rfl) ?_
    refine lv_bipush (v := 31) hx hb dX8_addRule_51 (by decide) ?_
    refine lv_icmp_gt (tgt := 60) hx hb dX8_addRule_53 (by decide) (fun c53 => ?_) (fun c53 => ?_)
    · have hw := hw.1 c53
      refine tJ_X8_addRule_60 C0 hK (hk61 := ?_) σ x1 x2 x3 x4 hw _ _ hW hS _ hl
      · intro σ x1 x2 x3 x4 t0 hw H locs hW hS ls hl
        refine tJ_X8_addRule_61 C0 hK  σ x1 x2 x3 x4 t0 hw _ _ hW hS _ hl
    · have hw := hw.2 c53
      refine lv_iconst (v := 1) hx hb dX8_addRule_56 (by decide) ?_
      refine lv_goto (tgt := 61) hx hb dX8_addRule_57 (by decide) ?_
      refine tJ_X8_addRule_61 C0 hK  σ x1 x2 x3 x4 1 hw _ _ hW hS _ hl
set_option maxHeartbeats 4000000 in
set_option maxRecDepth 100000 in
theorem tJ_X8_addRule_28 {p : Program} {l : Launch} {e : Env} {s : State} {m : MethodId} {args : Array Value} {below : List Frame} {meth : Method} {c : Code} {D : va_G} {cI cZ cG cL : ClassId} {ad : Nat → Nat} (C0 : gk_F p s m args meth c cX8_addRule 5 (some .int) RX8) (hK : gk_K D cI cZ cG cL s) {Q : Int32 → gk_C → Prop} {k41 : gk_C → Int32 → Int32 → Int32 → Int32 → Prop} {k42 : gk_C → Int32 → Int32 → Int32 → Int32 → Int32 → Prop} (hk41 : ∀ (σ : gk_C) (x1 : Int32) (x2 : Int32) (x3 : Int32) (x4 : Int32), k41 σ x1 x2 x3 x4 → ∀ (H : Heap) (locs : List Loc), gk_W D cI ad σ H → va_S (gk_A ad s.heap.size) s.heap H locs → ∀ (ls : Array Slot), lv_has ls 5 [(0, .ref (ad 0)), (1, .int x1), (2, .int x2), (3, .int x3), (4, .int x4)] → W p l e rmX8_addRule s m args below meth c H locs 0 0 (MQ below (va_Qi (fun r u => Q r u) (gk_B D cI ad) (gk_A ad s.heap.size)) args s 0 0 (gk_A ad s.heap.size)) (F0 m 41 ls [])) (hk42 : ∀ (σ : gk_C) (x1 : Int32) (x2 : Int32) (x3 : Int32) (x4 : Int32) (t0 : Int32), k42 σ x1 x2 x3 x4 t0 → ∀ (H : Heap) (locs : List Loc), gk_W D cI ad σ H → va_S (gk_A ad s.heap.size) s.heap H locs → ∀ (ls : Array Slot), lv_has ls 5 [(0, .ref (ad 0)), (1, .int x1), (2, .int x2), (3, .int x3), (4, .int x4)] → W p l e rmX8_addRule s m args below meth c H locs 0 0 (MQ below (va_Qi (fun r u => Q r u) (gk_B D cI ad) (gk_A ad s.heap.size)) args s 0 0 (gk_A ad s.heap.size)) (F0 m 42 ls [.int t0])) : ∀ (σ : gk_C) (x1 : Int32) (x2 : Int32) (x3 : Int32) (x4 : Int32), wJ_X8_addRule_28 k41 k42 σ x1 x2 x3 x4 → ∀ (H : Heap) (locs : List Loc), gk_W D cI ad σ H → va_S (gk_A ad s.heap.size) s.heap H locs → ∀ (ls : Array Slot), lv_has ls 5 [(0, .ref (ad 0)), (1, .int x1), (2, .int x2), (3, .int x3), (4, .int x4)] → W p l e rmX8_addRule s m args below meth c H locs 0 0 (MQ below (va_Qi (fun r u => Q r u) (gk_B D cI ad) (gk_A ad s.heap.size)) args s 0 0 (gk_A ad s.heap.size)) (F0 m 28 ls []) := by
  obtain ⟨hx, hb, hml, hown, hts, hr, hlocks⟩ := id C0
  intro σ x1 x2 x3 x4 hw H locs hW hS ls hl
  refine lv_aload_n hx hb dX8_addRule_28 rfl (lv_at hl 0 rfl) ?_
  refine lv_iload hx hb dX8_addRule_29 (lv_at hl 4 rfl) ?_
  refine gk_callRi ⟨hx, hb, hml, hown, hts⟩ (c_X8_isResource l D cI cZ cG cL ad hw) (cwV 1 hts (gk_gV ml_X8_72 im_X8_isResource se_X8_isResource in_X8 co_X8_isResource) rfl rfl rfl (by decide +kernel) ⟨Nat.le_of_ble_eq_true rfl, Nat.le_of_ble_eq_true rfl⟩) (gk_recv hK.1 (gk_o0 hW) rfl) hW hK hS rfl hl.1 (rest := []) rfl (lv_room (Nat.le_of_ble_eq_true rfl)) dX8_addRule_31 ⟨Nat.zero_le _, Nat.zero_le _⟩ (fun r31 H locs hw hW _ hS => ?_)
  refine lv_if_eq (tgt := 41) hx hb dX8_addRule_34 (by decide) (fun c34 => ?_) (fun c34 => ?_)
  · have hw := hw.1 c34
    exact hk41 σ x1 x2 x3 x4 hw _ _ hW hS _ hl
  · have hw := hw.2 c34
    refine lv_iconst (v := 1) hx hb dX8_addRule_37 (by decide) ?_
    refine lv_goto (tgt := 42) hx hb dX8_addRule_38 (by decide) ?_
    exact hk42 σ x1 x2 x3 x4 1 hw _ _ hW hS _ hl
set_option maxHeartbeats 4000000 in
set_option maxRecDepth 100000 in
theorem c_X8_addRule (l : Launch) (D : va_G) (cI cZ cG cL : ClassId) (ad : Nat → Nat) {σ : gk_C} {a0 : Int32} {a1 : Int32} {a2 : Int32} {a3 : Int32} {Q : Int32 → gk_C → Prop} {sz : Nat} (hw : w_X8_addRule σ a0 a1 a2 a3 Q) : Met l yX8_addRule wsX8_addRule rmX8_addRule (gk_Pc D cI cZ cG cL ad [.ref (ad 0), .int a0, .int a1, .int a2, .int a3] sz σ) (va_Qi (fun r u => Q r u) (gk_B D cI ad) (gk_A ad sz)) 0 0 (gk_A ad sz) := by
  refine Met.ofW (cc := cX8_addRule) (maxL := 5) (ret := (some .int)) (by decide) rfl ?_
  intro p e s m args below meth c s₁ B hml0 hv0
  obtain ⟨rfl, hsz, hW, hK⟩ := hv0
  subst hsz
  have C0 : gk_F p s m ([.ref (ad 0), .int a0, .int a1, .int a2, .int a3] : List Value).toArray meth c cX8_addRule 5 (some .int) RX8 := ⟨B.exec, B.bytes, hml0, findClass_of_methodNamed B.named, fun w hw => atoms_spec (ws := wsX8_addRule) B.pre w (List.mem_cons_of_mem _ hw), B.returns, B.notSynchronized⟩
  obtain ⟨hx, hb, hml, hown, hts, hr, hlocks⟩ := id C0
  have hS : va_S (gk_A ad s.heap.size) s.heap s.heap [] := va_S.rf
  have hl := lv_entry ([.ref (ad 0), .int a0, .int a1, .int a2, .int a3]) (n := 5) (Nat.le_of_ble_eq_true rfl)
  rw [lg_entry_eq]
  generalize (lg_sl ([.ref (ad 0), .int a0, .int a1, .int a2, .int a3]) ++ List.replicate (5 - (lg_sl ([.ref (ad 0), .int a0, .int a1, .int a2, .int a3])).length) Slot.unset).toArray = ls at hl ⊢
  have hl : lv_has ls 5 [(0, .ref (ad 0)), (1, .int a0), (2, .int a1), (3, .int a2), (4, .int a3)] := hl
  show W p l e rmX8_addRule s m _ below meth c s.heap [] 0 0 _ _
  refine lv_iload_n hx hb dX8_addRule_0 rfl (lv_at hl 2 rfl) ?_
  refine lv_bipush (v := 12) hx hb dX8_addRule_1 (by decide) ?_
  refine lv_icmp_ge (tgt := 17) hx hb dX8_addRule_3 (by decide) (fun c3 => ?_) (fun c3 => ?_)
  · have hw := hw.1 c3
    refine lv_aload_n hx hb dX8_addRule_17 rfl (lv_at hl 0 rfl) ?_
    refine lv_iload_n hx hb dX8_addRule_18 rfl (lv_at hl 2 rfl) ?_
    refine lv_bipush (v := 12) hx hb dX8_addRule_19 (by decide) ?_
    refine lv_isub hx hb dX8_addRule_21 ?_
    refine gk_callRi ⟨hx, hb, hml, hown, hts⟩ (c_X8_isRole l D cI cZ cG cL ad hw) (cwV 1 hts (gk_gV ml_X8_92 im_X8_isRole se_X8_isRole in_X8 co_X8_isRole) rfl rfl rfl (by decide +kernel) ⟨Nat.le_of_ble_eq_true rfl, Nat.le_of_ble_eq_true rfl⟩) (gk_recv hK.1 (gk_o0 hW) rfl) hW hK hS rfl hl.1 (rest := []) rfl (lv_room (Nat.le_of_ble_eq_true rfl)) dX8_addRule_22 ⟨Nat.zero_le _, Nat.zero_le _⟩ (fun r22 H locs hw hW _ hS => ?_)
    refine lv_if_eq (tgt := 41) hx hb dX8_addRule_25 (by decide) (fun c25 => ?_) (fun c25 => ?_)
    · have hw := hw.1 c25
      refine tJ_X8_addRule_41 C0 hK (hk42 := ?_) σ a0 a1 a2 a3 hw _ _ hW hS _ hl
      · intro σ x1 x2 x3 x4 t0 hw H locs hW hS ls hl
        refine tJ_X8_addRule_42 C0 hK  σ x1 x2 x3 x4 t0 hw _ _ hW hS _ hl
    · have hw := hw.2 c25
      refine tJ_X8_addRule_28 C0 hK (hk41 := ?_) (hk42 := ?_) σ a0 a1 a2 a3 hw _ _ hW hS _ hl
      · intro σ x1 x2 x3 x4 hw H locs hW hS ls hl
        refine tJ_X8_addRule_41 C0 hK (hk42 := ?_) σ x1 x2 x3 x4 hw _ _ hW hS _ hl
        · intro σ x1 x2 x3 x4 t0 hw H locs hW hS ls hl
          refine tJ_X8_addRule_42 C0 hK  σ x1 x2 x3 x4 t0 hw _ _ hW hS _ hl
      · intro σ x1 x2 x3 x4 t0 hw H locs hW hS ls hl
        refine tJ_X8_addRule_42 C0 hK  σ x1 x2 x3 x4 t0 hw _ _ hW hS _ hl
  · have hw := hw.2 c3
    refine lv_aload_n hx hb dX8_addRule_6 rfl (lv_at hl 0 rfl) ?_
    refine lv_iload_n hx hb dX8_addRule_7 rfl (lv_at hl 2 rfl) ?_
    refine gk_callRi ⟨hx, hb, hml, hown, hts⟩ (c_X8_isUser l D cI cZ cG cL ad hw) (cwV 1 hts (gk_gV ml_X8_89 im_X8_isUser se_X8_isUser in_X8 co_X8_isUser) rfl rfl rfl (by decide +kernel) ⟨Nat.le_of_ble_eq_true rfl, Nat.le_of_ble_eq_true rfl⟩) (gk_recv hK.1 (gk_o0 hW) rfl) hW hK hS rfl hl.1 (rest := []) rfl (lv_room (Nat.le_of_ble_eq_true rfl)) dX8_addRule_8 ⟨Nat.zero_le _, Nat.zero_le _⟩ (fun r8 H locs hw hW _ hS => ?_)
    refine lv_if_eq (tgt := 41) hx hb dX8_addRule_11 (by decide) (fun c11 => ?_) (fun c11 => ?_)
    · have hw := hw.1 c11
      refine tJ_X8_addRule_41 C0 hK (hk42 := ?_) σ a0 a1 a2 a3 hw _ _ hW hS _ hl
      · intro σ x1 x2 x3 x4 t0 hw H locs hW hS ls hl
        refine tJ_X8_addRule_42 C0 hK  σ x1 x2 x3 x4 t0 hw _ _ hW hS _ hl
    · have hw := hw.2 c11
      refine lv_goto (tgt := 28) hx hb dX8_addRule_14 (by decide) ?_
      refine tJ_X8_addRule_28 C0 hK (hk41 := ?_) (hk42 := ?_) σ a0 a1 a2 a3 hw _ _ hW hS _ hl
      · intro σ x1 x2 x3 x4 hw H locs hW hS ls hl
        refine tJ_X8_addRule_41 C0 hK (hk42 := ?_) σ x1 x2 x3 x4 hw _ _ hW hS _ hl
        · intro σ x1 x2 x3 x4 t0 hw H locs hW hS ls hl
          refine tJ_X8_addRule_42 C0 hK  σ x1 x2 x3 x4 t0 hw _ _ hW hS _ hl
      · intro σ x1 x2 x3 x4 t0 hw H locs hW hS ls hl
        refine tJ_X8_addRule_42 C0 hK  σ x1 x2 x3 x4 t0 hw _ _ hW hS _ hl
def wJ_X8_setRule_53 (Q : Int32 → gk_C → Prop) (σ : gk_C) (x1 : Int32) (x3 : Int32) (x4 : Int32) (t1 : Int32) (t2 : Int32) : Prop := (Q x4 (gk_put (gk_put σ 15 t1 t2) 16 x1 x3))
def w_X8_setRule (σ : gk_C) (a0 : Int32) (a1 : Int32) (a2 : Int32) (Q : Int32 → gk_C → Prop) : Prop := (w_X8_isRule σ a0 (fun r2 => (¬ r2 = 0) ∧ w_X8_isUpTo a2 9 (fun r11 => (¬ r11 = 0) ∧ ((a1 = 0) → (wJ_X8_setRule_53 Q σ a0 a2 (gk_at σ 16 a0) a0 0)) ∧ ((¬ a1 = 0) → (wJ_X8_setRule_53 Q σ a0 a2 (gk_at σ 16 a0) a0 1)))))
abbrev rmX8_setRule : Room := { frames := 1, cells := 0, slots := 0, locals := 22 }
set_option maxHeartbeats 4000000 in
set_option maxRecDepth 100000 in
theorem tJ_X8_setRule_53 {p : Program} {l : Launch} {e : Env} {s : State} {m : MethodId} {args : Array Value} {below : List Frame} {meth : Method} {c : Code} {D : va_G} {cI cZ cG cL : ClassId} {ad : Nat → Nat} (C0 : gk_F p s m args meth c cX8_setRule 5 (some .int) RX8) (hK : gk_K D cI cZ cG cL s) {Q : Int32 → gk_C → Prop} : ∀ (σ : gk_C) (x1 : Int32) (x3 : Int32) (x4 : Int32) (t1 : Int32) (t2 : Int32), wJ_X8_setRule_53 Q σ x1 x3 x4 t1 t2 → ∀ (H : Heap) (locs : List Loc), gk_W D cI ad σ H → va_S (gk_A ad s.heap.size) s.heap H locs → ∀ (ls : Array Slot), lv_has ls 5 [(0, .ref (ad 0)), (1, .int x1), (3, .int x3), (4, .int x4)] → W p l e rmX8_setRule s m args below meth c H locs 0 0 (MQ below (va_Qi (fun r u => Q r u) (gk_B D cI ad) (gk_A ad s.heap.size)) args s 0 0 (gk_A ad s.heap.size)) (F0 m 53 ls [.int t2, .int t1, .ref (ad (9 + 15))]) := by
  obtain ⟨hx, hb, hml, hown, hts, hr, hlocks⟩ := id C0
  intro σ x1 x3 x4 t1 t2 hw H locs hW hS ls hl
  refine gk_callVv ⟨hx, hb, hml, hown, hts⟩ (c_X2_put l D cI cZ cG cL ad (σ := σ) (r := 15) (i := t1) (x := t2) (by decide)) (cwV 2 hts (gk_gV ml_X8_107 im_X2_put se_X2_put in_X2 co_X2_put) rfl rfl rfl (by decide +kernel) ⟨Nat.le_of_ble_eq_true rfl, Nat.le_of_ble_eq_true rfl⟩) (gk_recv hK.1 (gk_or hW (r := 15) (by decide)) rfl) hW hK hS rfl hl.1 (rest := []) rfl (lv_room (Nat.le_of_ble_eq_true rfl)) dX8_setRule_53 ⟨Nat.zero_le _, Nat.zero_le _⟩ (fun u H locs hq hW _ hS => ?_)
  rw [hq] at hW
  refine lv_aload_n hx hb dX8_setRule_56 rfl (lv_at hl 0 rfl) ?_
  refine gk_get hx hb hts iwX8 hown hK.1 (gk_o0 hW) rfl 0 (by decide) (hts _ fl_X8_10) (fun _ h9 => h9) rfl dX8_setRule_57 ?_
  refine gk_getN hx hb hts iwX4 hown hK.1 (gk_o1 hW) rfl 3 (by decide) (gk_nw hK nf_X8_152) (fun _ h9 => h9) rfl dX8_setRule_60 ?_
  refine gk_getN hx hb hts iwX3 hown hK.1 (gk_o5 hW) rfl 6 (by decide) (gk_nw hK nf_X8_165) (fun _ h9 => h9) rfl dX8_setRule_63 ?_
  refine lv_iload_n hx hb dX8_setRule_66 rfl (lv_at hl 1 rfl) ?_
  refine lv_iload_n hx hb dX8_setRule_67 rfl (lv_at hl 2 rfl) ?_
  refine gk_callVv ⟨hx, hb, hml, hown, hts⟩ (c_X2_put l D cI cZ cG cL ad (σ := (gk_put σ 15 t1 t2)) (r := 16) (i := x1) (x := x3) (by decide)) (cwV 2 hts (gk_gV ml_X8_107 im_X2_put se_X2_put in_X2 co_X2_put) rfl rfl rfl (by decide +kernel) ⟨Nat.le_of_ble_eq_true rfl, Nat.le_of_ble_eq_true rfl⟩) (gk_recv hK.1 (gk_or hW (r := 16) (by decide)) rfl) hW hK hS rfl hl.1 (rest := []) rfl (lv_room (Nat.le_of_ble_eq_true rfl)) dX8_setRule_68 ⟨Nat.zero_le _, Nat.zero_le _⟩ (fun u H locs hq hW _ hS => ?_)
  rw [hq] at hW
  refine lv_iload hx hb dX8_setRule_71 (lv_at hl 3 rfl) ?_
  exact gk_reti C0 hw hW hS dX8_setRule_73
set_option maxHeartbeats 4000000 in
set_option maxRecDepth 100000 in
theorem c_X8_setRule (l : Launch) (D : va_G) (cI cZ cG cL : ClassId) (ad : Nat → Nat) {σ : gk_C} {a0 : Int32} {a1 : Int32} {a2 : Int32} {Q : Int32 → gk_C → Prop} {sz : Nat} (hw : w_X8_setRule σ a0 a1 a2 Q) : Met l yX8_setRule wsX8_setRule rmX8_setRule (gk_Pc D cI cZ cG cL ad [.ref (ad 0), .int a0, .int a1, .int a2] sz σ) (va_Qi (fun r u => Q r u) (gk_B D cI ad) (gk_A ad sz)) 0 0 (gk_A ad sz) := by
  refine Met.ofW (cc := cX8_setRule) (maxL := 5) (ret := (some .int)) (by decide) rfl ?_
  intro p e s m args below meth c s₁ B hml0 hv0
  obtain ⟨rfl, hsz, hW, hK⟩ := hv0
  subst hsz
  have C0 : gk_F p s m ([.ref (ad 0), .int a0, .int a1, .int a2] : List Value).toArray meth c cX8_setRule 5 (some .int) RX8 := ⟨B.exec, B.bytes, hml0, findClass_of_methodNamed B.named, fun w hw => atoms_spec (ws := wsX8_setRule) B.pre w (List.mem_cons_of_mem _ hw), B.returns, B.notSynchronized⟩
  obtain ⟨hx, hb, hml, hown, hts, hr, hlocks⟩ := id C0
  have hS : va_S (gk_A ad s.heap.size) s.heap s.heap [] := va_S.rf
  have hl := lv_entry ([.ref (ad 0), .int a0, .int a1, .int a2]) (n := 5) (Nat.le_of_ble_eq_true rfl)
  rw [lg_entry_eq]
  generalize (lg_sl ([.ref (ad 0), .int a0, .int a1, .int a2]) ++ List.replicate (5 - (lg_sl ([.ref (ad 0), .int a0, .int a1, .int a2])).length) Slot.unset).toArray = ls at hl ⊢
  have hl : lv_has ls 5 [(0, .ref (ad 0)), (1, .int a0), (2, .int a1), (3, .int a2)] := hl
  show W p l e rmX8_setRule s m _ below meth c s.heap [] 0 0 _ _
  refine lv_aload_n hx hb dX8_setRule_0 rfl (lv_at hl 0 rfl) ?_
  refine lv_iload_n hx hb dX8_setRule_1 rfl (lv_at hl 1 rfl) ?_
  refine gk_callRi ⟨hx, hb, hml, hown, hts⟩ (c_X8_isRule l D cI cZ cG cL ad hw) (cwV 1 hts (gk_gV ml_X8_162 im_X8_isRule se_X8_isRule in_X8 co_X8_isRule) rfl rfl rfl (by decide +kernel) ⟨Nat.le_of_ble_eq_true rfl, Nat.le_of_ble_eq_true rfl⟩) (gk_recv hK.1 (gk_o0 hW) rfl) hW hK hS rfl hl.1 (rest := []) rfl (lv_room (Nat.le_of_ble_eq_true rfl)) dX8_setRule_2 ⟨Nat.zero_le _, Nat.zero_le _⟩ (fun r2 H locs hw hW _ hS => ?_)
  obtain ⟨hc, hw⟩ := hw
  refine gk_callSv ⟨hx, hb, hml, hown, hts⟩ (c0_X8_checkThere l hc) (va_cwS 1 hts (gk_gS ml_X8_76 st_X8_checkThere in_X8 co_X8_checkThere) rfl rfl rfl (by decide +kernel) ⟨Nat.le_of_ble_eq_true rfl, Nat.le_of_ble_eq_true rfl⟩) hS rfl hl.1 (rest := []) rfl (lv_room (Nat.le_of_ble_eq_true rfl)) dX8_setRule_5 ⟨Nat.zero_le _, Nat.zero_le _⟩ (fun H locs _ hk hS => ?_)
  have hW := hW.kept (fun k hk9 => hk _ (hW.lt hk9))
  refine lv_iload_n hx hb dX8_setRule_8 rfl (lv_at hl 3 rfl) ?_
  refine lv_bipush (v := 9) hx hb dX8_setRule_9 (by decide) ?_
  refine gk_callSi ⟨hx, hb, hml, hown, hts⟩ (c_X8_isUpTo l hw) (va_cwS 2 hts (gk_gS ml_X8_37 st_X8_isUpTo in_X8 co_X8_isUpTo) rfl rfl rfl (by decide +kernel) ⟨Nat.le_of_ble_eq_true rfl, Nat.le_of_ble_eq_true rfl⟩) hS rfl hl.1 (rest := []) rfl (lv_room (Nat.le_of_ble_eq_true rfl)) dX8_setRule_11 ⟨Nat.zero_le _, Nat.zero_le _⟩ (fun r11 H locs hw _ hk hS => ?_)
  have hW := hW.kept (fun k hk9 => hk _ (hW.lt hk9))
  obtain ⟨hc, hw⟩ := hw
  refine gk_callSv ⟨hx, hb, hml, hown, hts⟩ (c0_X8_checkArguments l hc) (va_cwS 1 hts (gk_gS ml_X8_41 st_X8_checkArguments in_X8 co_X8_checkArguments) rfl rfl rfl (by decide +kernel) ⟨Nat.le_of_ble_eq_true rfl, Nat.le_of_ble_eq_true rfl⟩) hS rfl hl.1 (rest := []) rfl (lv_room (Nat.le_of_ble_eq_true rfl)) dX8_setRule_14 ⟨Nat.zero_le _, Nat.zero_le _⟩ (fun H locs _ hk hS => ?_)
  have hW := hW.kept (fun k hk9 => hk _ (hW.lt hk9))
  refine lv_aload_n hx hb dX8_setRule_17 rfl (lv_at hl 0 rfl) ?_
  refine gk_get hx hb hts iwX8 hown hK.1 (gk_o0 hW) rfl 0 (by decide) (hts _ fl_X8_10) (fun _ h9 => h9) rfl dX8_setRule_18 ?_
  refine gk_getN hx hb hts iwX4 hown hK.1 (gk_o1 hW) rfl 3 (by decide) (gk_nw hK nf_X8_152) (fun _ h9 => h9) rfl dX8_setRule_21 ?_
  refine gk_getN hx hb hts iwX3 hown hK.1 (gk_o5 hW) rfl 6 (by decide) (gk_nw hK nf_X8_165) (fun _ h9 => h9) rfl dX8_setRule_24 ?_
  refine lv_iload_n hx hb dX8_setRule_27 rfl (lv_at hl 1 rfl) ?_
  refine gk_callRi ⟨hx, hb, hml, hown, hts⟩ (c_X2_at l D cI cZ cG cL ad (σ := σ) (r := 16) (i := a0) (by decide)) (cwV 1 hts (gk_gV ml_X8_98 im_X2_at se_X2_at in_X2 co_X2_at) rfl rfl rfl (by decide +kernel) ⟨Nat.le_of_ble_eq_true rfl, Nat.le_of_ble_eq_true rfl⟩) (gk_recv hK.1 (gk_or hW (r := 16) (by decide)) rfl) hW hK hS rfl hl.1 (rest := []) rfl (lv_room (Nat.le_of_ble_eq_true rfl)) dX8_setRule_28 ⟨Nat.zero_le _, Nat.zero_le _⟩ (fun r28 H locs hq hW _ hS => ?_)
  obtain rfl := hq
  refine lv_istore (lv' := [(4, .int (gk_at σ 16 a0)), (0, .ref (ad 0)), (1, .int a0), (2, .int a1), (3, .int a2)]) hx hb dX8_setRule_31 hl (by decide) rfl (fun ls hl => ?_)
  refine lv_aload_n hx hb dX8_setRule_33 rfl (lv_at hl 1 rfl) ?_
  refine gk_get hx hb hts iwX8 hown hK.1 (gk_o0 hW) rfl 0 (by decide) (hts _ fl_X8_10) (fun _ h9 => h9) rfl dX8_setRule_34 ?_
  refine gk_getN hx hb hts iwX4 hown hK.1 (gk_o1 hW) rfl 3 (by decide) (gk_nw hK nf_X8_152) (fun _ h9 => h9) rfl dX8_setRule_37 ?_
  refine gk_getN hx hb hts iwX3 hown hK.1 (gk_o5 hW) rfl 5 (by decide) (gk_nw hK nf_X8_168) (fun _ h9 => h9) rfl dX8_setRule_40 ?_
  refine lv_iload_n hx hb dX8_setRule_43 rfl (lv_at hl 2 rfl) ?_
  refine lv_iload_n hx hb dX8_setRule_44 rfl (lv_at hl 3 rfl) ?_
  refine lv_if_eq (tgt := 52) hx hb dX8_setRule_45 (by decide) (fun c45 => ?_) (fun c45 => ?_)
  · have hw := hw.1 c45
    refine lv_iconst (v := 0) hx hb dX8_setRule_52 (by decide) ?_
    refine tJ_X8_setRule_53 C0 hK  σ a0 a2 (gk_at σ 16 a0) a0 0 hw _ _ hW hS _ (lv_sub hl [1, 2, 4, 0] rfl)
  · have hw := hw.2 c45
    refine lv_iconst (v := 1) hx hb dX8_setRule_48 (by decide) ?_
    refine lv_goto (tgt := 53) hx hb dX8_setRule_49 (by decide) ?_
    refine tJ_X8_setRule_53 C0 hK  σ a0 a2 (gk_at σ 16 a0) a0 1 hw _ _ hW hS _ (lv_sub hl [1, 2, 4, 0] rfl)
def wJ_X8_setTerms_41 (k42 : gk_C → Int32 → Int32 → Int32 → Int32 → Int32 → Prop) (σ : gk_C) (x1 : Int32) (x2 : Int32) (x3 : Int32) (x4 : Int32) : Prop := (k42 σ x1 x2 x3 x4 0)
def wJ_X8_setTerms_42 (Q : Int32 → gk_C → Prop) (σ : gk_C) (x1 : Int32) (x2 : Int32) (x3 : Int32) (x4 : Int32) (t0 : Int32) : Prop := ((¬ t0 = 0) ∧ Q (gk_at σ 17 x1) (gk_put (gk_put (gk_put σ 17 x1 x2) 18 x1 x3) 19 x1 x4))
def w_X8_setTerms (σ : gk_C) (a0 : Int32) (a1 : Int32) (a2 : Int32) (a3 : Int32) (Q : Int32 → gk_C → Prop) : Prop := (w_X8_isRule σ a0 (fun r2 => (¬ r2 = 0) ∧ w_X8_isUpTo a1 255 (fun r12 => ((r12 = 0) → (wJ_X8_setTerms_41 (fun σ x1 x2 x3 x4 t0 => (wJ_X8_setTerms_42 Q σ x1 x2 x3 x4 t0)) σ a0 a1 a2 a3)) ∧ ((¬ r12 = 0) → (w_X8_isUpTo a2 23 (fun r21 => ((r21 = 0) → (wJ_X8_setTerms_41 (fun σ x1 x2 x3 x4 t0 => (wJ_X8_setTerms_42 Q σ x1 x2 x3 x4 t0)) σ a0 a1 a2 a3)) ∧ ((¬ r21 = 0) → (w_X8_isUpTo a3 23 (fun r31 => ((r31 = 0) → (wJ_X8_setTerms_41 (fun σ x1 x2 x3 x4 t0 => (wJ_X8_setTerms_42 Q σ x1 x2 x3 x4 t0)) σ a0 a1 a2 a3)) ∧ ((¬ r31 = 0) → (wJ_X8_setTerms_42 Q σ a0 a1 a2 a3 1)))))))))))
abbrev rmX8_setTerms : Room := { frames := 1, cells := 0, slots := 0, locals := 22 }
set_option maxHeartbeats 4000000 in
set_option maxRecDepth 100000 in
theorem tJ_X8_setTerms_41 {p : Program} {l : Launch} {e : Env} {s : State} {m : MethodId} {args : Array Value} {below : List Frame} {meth : Method} {c : Code} {D : va_G} {cI cZ cG cL : ClassId} {ad : Nat → Nat} (C0 : gk_F p s m args meth c cX8_setTerms 6 (some .int) RX8) (hK : gk_K D cI cZ cG cL s) {Q : Int32 → gk_C → Prop} {k42 : gk_C → Int32 → Int32 → Int32 → Int32 → Int32 → Prop} (hk42 : ∀ (σ : gk_C) (x1 : Int32) (x2 : Int32) (x3 : Int32) (x4 : Int32) (t0 : Int32), k42 σ x1 x2 x3 x4 t0 → ∀ (H : Heap) (locs : List Loc), gk_W D cI ad σ H → va_S (gk_A ad s.heap.size) s.heap H locs → ∀ (ls : Array Slot), lv_has ls 6 [(0, .ref (ad 0)), (1, .int x1), (2, .int x2), (3, .int x3), (4, .int x4)] → W p l e rmX8_setTerms s m args below meth c H locs 0 0 (MQ below (va_Qi (fun r u => Q r u) (gk_B D cI ad) (gk_A ad s.heap.size)) args s 0 0 (gk_A ad s.heap.size)) (F0 m 42 ls [.int t0])) : ∀ (σ : gk_C) (x1 : Int32) (x2 : Int32) (x3 : Int32) (x4 : Int32), wJ_X8_setTerms_41 k42 σ x1 x2 x3 x4 → ∀ (H : Heap) (locs : List Loc), gk_W D cI ad σ H → va_S (gk_A ad s.heap.size) s.heap H locs → ∀ (ls : Array Slot), lv_has ls 6 [(0, .ref (ad 0)), (1, .int x1), (2, .int x2), (3, .int x3), (4, .int x4)] → W p l e rmX8_setTerms s m args below meth c H locs 0 0 (MQ below (va_Qi (fun r u => Q r u) (gk_B D cI ad) (gk_A ad s.heap.size)) args s 0 0 (gk_A ad s.heap.size)) (F0 m 41 ls []) := by
  obtain ⟨hx, hb, hml, hown, hts, hr, hlocks⟩ := id C0
  intro σ x1 x2 x3 x4 hw H locs hW hS ls hl
  refine lv_iconst (v := 0) hx hb dX8_setTerms_41 (by decide) ?_
  exact hk42 σ x1 x2 x3 x4 0 hw _ _ hW hS _ hl
set_option maxHeartbeats 4000000 in
set_option maxRecDepth 100000 in
theorem tJ_X8_setTerms_42 {p : Program} {l : Launch} {e : Env} {s : State} {m : MethodId} {args : Array Value} {below : List Frame} {meth : Method} {c : Code} {D : va_G} {cI cZ cG cL : ClassId} {ad : Nat → Nat} (C0 : gk_F p s m args meth c cX8_setTerms 6 (some .int) RX8) (hK : gk_K D cI cZ cG cL s) {Q : Int32 → gk_C → Prop} : ∀ (σ : gk_C) (x1 : Int32) (x2 : Int32) (x3 : Int32) (x4 : Int32) (t0 : Int32), wJ_X8_setTerms_42 Q σ x1 x2 x3 x4 t0 → ∀ (H : Heap) (locs : List Loc), gk_W D cI ad σ H → va_S (gk_A ad s.heap.size) s.heap H locs → ∀ (ls : Array Slot), lv_has ls 6 [(0, .ref (ad 0)), (1, .int x1), (2, .int x2), (3, .int x3), (4, .int x4)] → W p l e rmX8_setTerms s m args below meth c H locs 0 0 (MQ below (va_Qi (fun r u => Q r u) (gk_B D cI ad) (gk_A ad s.heap.size)) args s 0 0 (gk_A ad s.heap.size)) (F0 m 42 ls [.int t0]) := by
  obtain ⟨hx, hb, hml, hown, hts, hr, hlocks⟩ := id C0
  intro σ x1 x2 x3 x4 t0 hw H locs hW hS ls hl
  obtain ⟨hc, hw⟩ := hw
  refine gk_callSv ⟨hx, hb, hml, hown, hts⟩ (c0_X8_checkArguments l hc) (va_cwS 1 hts (gk_gS ml_X8_41 st_X8_checkArguments in_X8 co_X8_checkArguments) rfl rfl rfl (by decide +kernel) ⟨Nat.le_of_ble_eq_true rfl, Nat.le_of_ble_eq_true rfl⟩) hS rfl hl.1 (rest := []) rfl (lv_room (Nat.le_of_ble_eq_true rfl)) dX8_setTerms_42 ⟨Nat.zero_le _, Nat.zero_le _⟩ (fun H locs _ hk hS => ?_)
  have hW := hW.kept (fun k hk9 => hk _ (hW.lt hk9))
  refine lv_aload_n hx hb dX8_setTerms_45 rfl (lv_at hl 0 rfl) ?_
  refine gk_get hx hb hts iwX8 hown hK.1 (gk_o0 hW) rfl 0 (by decide) (hts _ fl_X8_10) (fun _ h9 => h9) rfl dX8_setTerms_46 ?_
  refine gk_getN hx hb hts iwX4 hown hK.1 (gk_o1 hW) rfl 3 (by decide) (gk_nw hK nf_X8_152) (fun _ h9 => h9) rfl dX8_setTerms_49 ?_
  refine gk_getN hx hb hts iwX3 hown hK.1 (gk_o5 hW) rfl 7 (by decide) (gk_nw hK nf_X8_171) (fun _ h9 => h9) rfl dX8_setTerms_52 ?_
  refine lv_iload_n hx hb dX8_setTerms_55 rfl (lv_at hl 1 rfl) ?_
  refine gk_callRi ⟨hx, hb, hml, hown, hts⟩ (c_X2_at l D cI cZ cG cL ad (σ := σ) (r := 17) (i := x1) (by decide)) (cwV 1 hts (gk_gV ml_X8_98 im_X2_at se_X2_at in_X2 co_X2_at) rfl rfl rfl (by decide +kernel) ⟨Nat.le_of_ble_eq_true rfl, Nat.le_of_ble_eq_true rfl⟩) (gk_recv hK.1 (gk_or hW (r := 17) (by decide)) rfl) hW hK hS rfl hl.1 (rest := []) rfl (lv_room (Nat.le_of_ble_eq_true rfl)) dX8_setTerms_56 ⟨Nat.zero_le _, Nat.zero_le _⟩ (fun r56 H locs hq hW _ hS => ?_)
  obtain rfl := hq
  refine lv_istore (lv' := [(5, .int (gk_at σ 17 x1)), (0, .ref (ad 0)), (1, .int x1), (2, .int x2), (3, .int x3), (4, .int x4)]) hx hb dX8_setTerms_59 hl (by decide) rfl (fun ls hl => ?_)
  refine lv_aload_n hx hb dX8_setTerms_61 rfl (lv_at hl 1 rfl) ?_
  refine gk_get hx hb hts iwX8 hown hK.1 (gk_o0 hW) rfl 0 (by decide) (hts _ fl_X8_10) (fun _ h9 => h9) rfl dX8_setTerms_62 ?_
  refine gk_getN hx hb hts iwX4 hown hK.1 (gk_o1 hW) rfl 3 (by decide) (gk_nw hK nf_X8_152) (fun _ h9 => h9) rfl dX8_setTerms_65 ?_
  refine gk_getN hx hb hts iwX3 hown hK.1 (gk_o5 hW) rfl 7 (by decide) (gk_nw hK nf_X8_171) (fun _ h9 => h9) rfl dX8_setTerms_68 ?_
  refine lv_iload_n hx hb dX8_setTerms_71 rfl (lv_at hl 2 rfl) ?_
  refine lv_iload_n hx hb dX8_setTerms_72 rfl (lv_at hl 3 rfl) ?_
  refine gk_callVv ⟨hx, hb, hml, hown, hts⟩ (c_X2_put l D cI cZ cG cL ad (σ := σ) (r := 17) (i := x1) (x := x2) (by decide)) (cwV 2 hts (gk_gV ml_X8_107 im_X2_put se_X2_put in_X2 co_X2_put) rfl rfl rfl (by decide +kernel) ⟨Nat.le_of_ble_eq_true rfl, Nat.le_of_ble_eq_true rfl⟩) (gk_recv hK.1 (gk_or hW (r := 17) (by decide)) rfl) hW hK hS rfl hl.1 (rest := []) rfl (lv_room (Nat.le_of_ble_eq_true rfl)) dX8_setTerms_73 ⟨Nat.zero_le _, Nat.zero_le _⟩ (fun u H locs hq hW _ hS => ?_)
  rw [hq] at hW
  refine lv_aload_n hx hb dX8_setTerms_76 rfl (lv_at hl 1 rfl) ?_
  refine gk_get hx hb hts iwX8 hown hK.1 (gk_o0 hW) rfl 0 (by decide) (hts _ fl_X8_10) (fun _ h9 => h9) rfl dX8_setTerms_77 ?_
  refine gk_getN hx hb hts iwX4 hown hK.1 (gk_o1 hW) rfl 3 (by decide) (gk_nw hK nf_X8_152) (fun _ h9 => h9) rfl dX8_setTerms_80 ?_
  refine gk_getN hx hb hts iwX3 hown hK.1 (gk_o5 hW) rfl 8 (by decide) (gk_nw hK nf_X8_172) (fun _ h9 => h9) rfl dX8_setTerms_83 ?_
  refine lv_iload_n hx hb dX8_setTerms_86 rfl (lv_at hl 2 rfl) ?_
  refine lv_iload_n hx hb dX8_setTerms_87 rfl (lv_at hl 4 rfl) ?_
  refine gk_callVv ⟨hx, hb, hml, hown, hts⟩ (c_X2_put l D cI cZ cG cL ad (σ := (gk_put σ 17 x1 x2)) (r := 18) (i := x1) (x := x3) (by decide)) (cwV 2 hts (gk_gV ml_X8_107 im_X2_put se_X2_put in_X2 co_X2_put) rfl rfl rfl (by decide +kernel) ⟨Nat.le_of_ble_eq_true rfl, Nat.le_of_ble_eq_true rfl⟩) (gk_recv hK.1 (gk_or hW (r := 18) (by decide)) rfl) hW hK hS rfl hl.1 (rest := []) rfl (lv_room (Nat.le_of_ble_eq_true rfl)) dX8_setTerms_88 ⟨Nat.zero_le _, Nat.zero_le _⟩ (fun u H locs hq hW _ hS => ?_)
  rw [hq] at hW
  refine lv_aload_n hx hb dX8_setTerms_91 rfl (lv_at hl 1 rfl) ?_
  refine gk_get hx hb hts iwX8 hown hK.1 (gk_o0 hW) rfl 0 (by decide) (hts _ fl_X8_10) (fun _ h9 => h9) rfl dX8_setTerms_92 ?_
  refine gk_getN hx hb hts iwX4 hown hK.1 (gk_o1 hW) rfl 3 (by decide) (gk_nw hK nf_X8_152) (fun _ h9 => h9) rfl dX8_setTerms_95 ?_
  refine gk_getN hx hb hts iwX3 hown hK.1 (gk_o5 hW) rfl 9 (by decide) (gk_nw hK nf_X8_175) (fun _ h9 => h9) rfl dX8_setTerms_98 ?_
  refine lv_iload_n hx hb dX8_setTerms_101 rfl (lv_at hl 2 rfl) ?_
  refine lv_iload hx hb dX8_setTerms_102 (lv_at hl 5 rfl) ?_
  refine gk_callVv ⟨hx, hb, hml, hown, hts⟩ (c_X2_put l D cI cZ cG cL ad (σ := (gk_put (gk_put σ 17 x1 x2) 18 x1 x3)) (r := 19) (i := x1) (x := x4) (by decide)) (cwV 2 hts (gk_gV ml_X8_107 im_X2_put se_X2_put in_X2 co_X2_put) rfl rfl rfl (by decide +kernel) ⟨Nat.le_of_ble_eq_true rfl, Nat.le_of_ble_eq_true rfl⟩) (gk_recv hK.1 (gk_or hW (r := 19) (by decide)) rfl) hW hK hS rfl hl.1 (rest := []) rfl (lv_room (Nat.le_of_ble_eq_true rfl)) dX8_setTerms_104 ⟨Nat.zero_le _, Nat.zero_le _⟩ (fun u H locs hq hW _ hS => ?_)
  rw [hq] at hW
  refine lv_iload hx hb dX8_setTerms_107 (lv_at hl 0 rfl) ?_
  exact gk_reti C0 hw hW hS dX8_setTerms_109
set_option maxHeartbeats 4000000 in
set_option maxRecDepth 100000 in
theorem c_X8_setTerms (l : Launch) (D : va_G) (cI cZ cG cL : ClassId) (ad : Nat → Nat) {σ : gk_C} {a0 : Int32} {a1 : Int32} {a2 : Int32} {a3 : Int32} {Q : Int32 → gk_C → Prop} {sz : Nat} (hw : w_X8_setTerms σ a0 a1 a2 a3 Q) : Met l yX8_setTerms wsX8_setTerms rmX8_setTerms (gk_Pc D cI cZ cG cL ad [.ref (ad 0), .int a0, .int a1, .int a2, .int a3] sz σ) (va_Qi (fun r u => Q r u) (gk_B D cI ad) (gk_A ad sz)) 0 0 (gk_A ad sz) := by
  refine Met.ofW (cc := cX8_setTerms) (maxL := 6) (ret := (some .int)) (by decide) rfl ?_
  intro p e s m args below meth c s₁ B hml0 hv0
  obtain ⟨rfl, hsz, hW, hK⟩ := hv0
  subst hsz
  have C0 : gk_F p s m ([.ref (ad 0), .int a0, .int a1, .int a2, .int a3] : List Value).toArray meth c cX8_setTerms 6 (some .int) RX8 := ⟨B.exec, B.bytes, hml0, findClass_of_methodNamed B.named, fun w hw => atoms_spec (ws := wsX8_setTerms) B.pre w (List.mem_cons_of_mem _ hw), B.returns, B.notSynchronized⟩
  obtain ⟨hx, hb, hml, hown, hts, hr, hlocks⟩ := id C0
  have hS : va_S (gk_A ad s.heap.size) s.heap s.heap [] := va_S.rf
  have hl := lv_entry ([.ref (ad 0), .int a0, .int a1, .int a2, .int a3]) (n := 6) (Nat.le_of_ble_eq_true rfl)
  rw [lg_entry_eq]
  generalize (lg_sl ([.ref (ad 0), .int a0, .int a1, .int a2, .int a3]) ++ List.replicate (6 - (lg_sl ([.ref (ad 0), .int a0, .int a1, .int a2, .int a3])).length) Slot.unset).toArray = ls at hl ⊢
  have hl : lv_has ls 6 [(0, .ref (ad 0)), (1, .int a0), (2, .int a1), (3, .int a2), (4, .int a3)] := hl
  show W p l e rmX8_setTerms s m _ below meth c s.heap [] 0 0 _ _
  refine lv_aload_n hx hb dX8_setTerms_0 rfl (lv_at hl 0 rfl) ?_
  refine lv_iload_n hx hb dX8_setTerms_1 rfl (lv_at hl 1 rfl) ?_
  refine gk_callRi ⟨hx, hb, hml, hown, hts⟩ (c_X8_isRule l D cI cZ cG cL ad hw) (cwV 1 hts (gk_gV ml_X8_162 im_X8_isRule se_X8_isRule in_X8 co_X8_isRule) rfl rfl rfl (by decide +kernel) ⟨Nat.le_of_ble_eq_true rfl, Nat.le_of_ble_eq_true rfl⟩) (gk_recv hK.1 (gk_o0 hW) rfl) hW hK hS rfl hl.1 (rest := []) rfl (lv_room (Nat.le_of_ble_eq_true rfl)) dX8_setTerms_2 ⟨Nat.zero_le _, Nat.zero_le _⟩ (fun r2 H locs hw hW _ hS => ?_)
  obtain ⟨hc, hw⟩ := hw
  refine gk_callSv ⟨hx, hb, hml, hown, hts⟩ (c0_X8_checkThere l hc) (va_cwS 1 hts (gk_gS ml_X8_76 st_X8_checkThere in_X8 co_X8_checkThere) rfl rfl rfl (by decide +kernel) ⟨Nat.le_of_ble_eq_true rfl, Nat.le_of_ble_eq_true rfl⟩) hS rfl hl.1 (rest := []) rfl (lv_room (Nat.le_of_ble_eq_true rfl)) dX8_setTerms_5 ⟨Nat.zero_le _, Nat.zero_le _⟩ (fun H locs _ hk hS => ?_)
  have hW := hW.kept (fun k hk9 => hk _ (hW.lt hk9))
  refine lv_iload_n hx hb dX8_setTerms_8 rfl (lv_at hl 2 rfl) ?_
  refine lv_sipush (v := 255) hx hb dX8_setTerms_9 (by decide) ?_
  refine gk_callSi ⟨hx, hb, hml, hown, hts⟩ (c_X8_isUpTo l hw) (va_cwS 2 hts (gk_gS ml_X8_37 st_X8_isUpTo in_X8 co_X8_isUpTo) rfl rfl rfl (by decide +kernel) ⟨Nat.le_of_ble_eq_true rfl, Nat.le_of_ble_eq_true rfl⟩) hS rfl hl.1 (rest := []) rfl (lv_room (Nat.le_of_ble_eq_true rfl)) dX8_setTerms_12 ⟨Nat.zero_le _, Nat.zero_le _⟩ (fun r12 H locs hw _ hk hS => ?_)
  have hW := hW.kept (fun k hk9 => hk _ (hW.lt hk9))
  refine lv_if_eq (tgt := 41) hx hb dX8_setTerms_15 (by decide) (fun c15 => ?_) (fun c15 => ?_)
  · have hw := hw.1 c15
    refine tJ_X8_setTerms_41 C0 hK (hk42 := ?_) σ a0 a1 a2 a3 hw _ _ hW hS _ hl
    · intro σ x1 x2 x3 x4 t0 hw H locs hW hS ls hl
      refine tJ_X8_setTerms_42 C0 hK  σ x1 x2 x3 x4 t0 hw _ _ hW hS _ hl
  · have hw := hw.2 c15
    refine lv_iload_n hx hb dX8_setTerms_18 rfl (lv_at hl 3 rfl) ?_
    refine lv_bipush (v := 23) hx hb dX8_setTerms_19 (by decide) ?_
    refine gk_callSi ⟨hx, hb, hml, hown, hts⟩ (c_X8_isUpTo l hw) (va_cwS 2 hts (gk_gS ml_X8_37 st_X8_isUpTo in_X8 co_X8_isUpTo) rfl rfl rfl (by decide +kernel) ⟨Nat.le_of_ble_eq_true rfl, Nat.le_of_ble_eq_true rfl⟩) hS rfl hl.1 (rest := []) rfl (lv_room (Nat.le_of_ble_eq_true rfl)) dX8_setTerms_21 ⟨Nat.zero_le _, Nat.zero_le _⟩ (fun r21 H locs hw _ hk hS => ?_)
    have hW := hW.kept (fun k hk9 => hk _ (hW.lt hk9))
    refine lv_if_eq (tgt := 41) hx hb dX8_setTerms_24 (by decide) (fun c24 => ?_) (fun c24 => ?_)
    · have hw := hw.1 c24
      refine tJ_X8_setTerms_41 C0 hK (hk42 := ?_) σ a0 a1 a2 a3 hw _ _ hW hS _ hl
      · intro σ x1 x2 x3 x4 t0 hw H locs hW hS ls hl
        refine tJ_X8_setTerms_42 C0 hK  σ x1 x2 x3 x4 t0 hw _ _ hW hS _ hl
    · have hw := hw.2 c24
      refine lv_iload hx hb dX8_setTerms_27 (lv_at hl 4 rfl) ?_
      refine lv_bipush (v := 23) hx hb dX8_setTerms_29 (by decide) ?_
      refine gk_callSi ⟨hx, hb, hml, hown, hts⟩ (c_X8_isUpTo l hw) (va_cwS 2 hts (gk_gS ml_X8_37 st_X8_isUpTo in_X8 co_X8_isUpTo) rfl rfl rfl (by decide +kernel) ⟨Nat.le_of_ble_eq_true rfl, Nat.le_of_ble_eq_true rfl⟩) hS rfl hl.1 (rest := []) rfl (lv_room (Nat.le_of_ble_eq_true rfl)) dX8_setTerms_31 ⟨Nat.zero_le _, Nat.zero_le _⟩ (fun r31 H locs hw _ hk hS => ?_)
      have hW := hW.kept (fun k hk9 => hk _ (hW.lt hk9))
      refine lv_if_eq (tgt := 41) hx hb dX8_setTerms_34 (by decide) (fun c34 => ?_) (fun c34 => ?_)
      · have hw := hw.1 c34
        refine tJ_X8_setTerms_41 C0 hK (hk42 := ?_) σ a0 a1 a2 a3 hw _ _ hW hS _ hl
        · intro σ x1 x2 x3 x4 t0 hw H locs hW hS ls hl
          refine tJ_X8_setTerms_42 C0 hK  σ x1 x2 x3 x4 t0 hw _ _ hW hS _ hl
      · have hw := hw.2 c34
        refine lv_iconst (v := 1) hx hb dX8_setTerms_37 (by decide) ?_
        refine lv_goto (tgt := 42) hx hb dX8_setTerms_38 (by decide) ?_
        refine tJ_X8_setTerms_42 C0 hK  σ a0 a1 a2 a3 1 hw _ _ hW hS _ hl
def w_X8_dropRule (σ : gk_C) (a0 : Int32) (Q : Int32 → gk_C → Prop) : Prop := (w_X8_isRule σ a0 (fun r2 => (¬ r2 = 0) ∧ w_X3_drop σ a0 (fun r16 σ16 => Q r16 σ16)))
abbrev rmX8_dropRule : Room := { frames := 3, cells := 0, slots := 0, locals := 64 }
set_option maxHeartbeats 4000000 in
set_option maxRecDepth 100000 in
theorem c_X8_dropRule (l : Launch) (D : va_G) (cI cZ cG cL : ClassId) (ad : Nat → Nat) {σ : gk_C} {a0 : Int32} {Q : Int32 → gk_C → Prop} {sz : Nat} (hw : w_X8_dropRule σ a0 Q) : Met l yX8_dropRule wsX8_dropRule rmX8_dropRule (gk_Pc D cI cZ cG cL ad [.ref (ad 0), .int a0] sz σ) (va_Qi (fun r u => Q r u) (gk_B D cI ad) (gk_A ad sz)) 0 0 (gk_A ad sz) := by
  refine Met.ofW (cc := cX8_dropRule) (maxL := 2) (ret := (some .int)) (by decide) rfl ?_
  intro p e s m args below meth c s₁ B hml0 hv0
  obtain ⟨rfl, hsz, hW, hK⟩ := hv0
  subst hsz
  have C0 : gk_F p s m ([.ref (ad 0), .int a0] : List Value).toArray meth c cX8_dropRule 2 (some .int) RX8 := ⟨B.exec, B.bytes, hml0, findClass_of_methodNamed B.named, fun w hw => atoms_spec (ws := wsX8_dropRule) B.pre w (List.mem_cons_of_mem _ hw), B.returns, B.notSynchronized⟩
  obtain ⟨hx, hb, hml, hown, hts, hr, hlocks⟩ := id C0
  have hS : va_S (gk_A ad s.heap.size) s.heap s.heap [] := va_S.rf
  have hl := lv_entry ([.ref (ad 0), .int a0]) (n := 2) (Nat.le_of_ble_eq_true rfl)
  rw [lg_entry_eq]
  generalize (lg_sl ([.ref (ad 0), .int a0]) ++ List.replicate (2 - (lg_sl ([.ref (ad 0), .int a0])).length) Slot.unset).toArray = ls at hl ⊢
  have hl : lv_has ls 2 [(0, .ref (ad 0)), (1, .int a0)] := hl
  show W p l e rmX8_dropRule s m _ below meth c s.heap [] 0 0 _ _
  refine lv_aload_n hx hb dX8_dropRule_0 rfl (lv_at hl 0 rfl) ?_
  refine lv_iload_n hx hb dX8_dropRule_1 rfl (lv_at hl 1 rfl) ?_
  refine gk_callRi ⟨hx, hb, hml, hown, hts⟩ (c_X8_isRule l D cI cZ cG cL ad hw) (cwV 1 hts (gk_gV ml_X8_162 im_X8_isRule se_X8_isRule in_X8 co_X8_isRule) rfl rfl rfl (by decide +kernel) ⟨Nat.le_of_ble_eq_true rfl, Nat.le_of_ble_eq_true rfl⟩) (gk_recv hK.1 (gk_o0 hW) rfl) hW hK hS rfl hl.1 (rest := []) rfl (lv_room (Nat.le_of_ble_eq_true rfl)) dX8_dropRule_2 ⟨Nat.zero_le _, Nat.zero_le _⟩ (fun r2 H locs hw hW _ hS => ?_)
  obtain ⟨hc, hw⟩ := hw
  refine gk_callSv ⟨hx, hb, hml, hown, hts⟩ (c0_X8_checkThere l hc) (va_cwS 1 hts (gk_gS ml_X8_76 st_X8_checkThere in_X8 co_X8_checkThere) rfl rfl rfl (by decide +kernel) ⟨Nat.le_of_ble_eq_true rfl, Nat.le_of_ble_eq_true rfl⟩) hS rfl hl.1 (rest := []) rfl (lv_room (Nat.le_of_ble_eq_true rfl)) dX8_dropRule_5 ⟨Nat.zero_le _, Nat.zero_le _⟩ (fun H locs _ hk hS => ?_)
  have hW := hW.kept (fun k hk9 => hk _ (hW.lt hk9))
  refine lv_aload_n hx hb dX8_dropRule_8 rfl (lv_at hl 0 rfl) ?_
  refine gk_get hx hb hts iwX8 hown hK.1 (gk_o0 hW) rfl 0 (by decide) (hts _ fl_X8_10) (fun _ h9 => h9) rfl dX8_dropRule_9 ?_
  refine gk_getN hx hb hts iwX4 hown hK.1 (gk_o1 hW) rfl 3 (by decide) (gk_nw hK nf_X8_152) (fun _ h9 => h9) rfl dX8_dropRule_12 ?_
  refine lv_iload_n hx hb dX8_dropRule_15 rfl (lv_at hl 1 rfl) ?_
  refine gk_callVi ⟨hx, hb, hml, hown, hts⟩ (c_X3_drop l D cI cZ cG cL ad hw) (cwV 1 hts (gk_gV ml_X8_178 im_X3_drop se_X3_drop in_X3 co_X3_drop) rfl rfl rfl (by decide +kernel) ⟨Nat.le_of_ble_eq_true rfl, Nat.le_of_ble_eq_true rfl⟩) (gk_recv hK.1 (gk_o5 hW) rfl) hW hK hS rfl hl.1 (rest := []) rfl (lv_room (Nat.le_of_ble_eq_true rfl)) dX8_dropRule_16 ⟨Nat.zero_le _, Nat.zero_le _⟩ (fun r16 σ16 H locs hw hW _ hS => ?_)
  exact gk_reti C0 hw hW hS dX8_dropRule_19
def w_X8_setWeighing (σ : gk_C) (a0 : Int32) (Q : Int32 → gk_C → Prop) : Prop := (w_X8_isUpTo a0 3 (fun r2 => (¬ r2 = 0) ∧ Q (σ.2 6) (gk_s σ 6 a0)))
abbrev rmX8_setWeighing : Room := { frames := 1, cells := 0, slots := 0, locals := 21 }
set_option maxHeartbeats 4000000 in
set_option maxRecDepth 100000 in
theorem c_X8_setWeighing (l : Launch) (D : va_G) (cI cZ cG cL : ClassId) (ad : Nat → Nat) {σ : gk_C} {a0 : Int32} {Q : Int32 → gk_C → Prop} {sz : Nat} (hw : w_X8_setWeighing σ a0 Q) : Met l yX8_setWeighing wsX8_setWeighing rmX8_setWeighing (gk_Pc D cI cZ cG cL ad [.ref (ad 0), .int a0] sz σ) (va_Qi (fun r u => Q r u) (gk_B D cI ad) (gk_A ad sz)) 0 0 (gk_A ad sz) := by
  refine Met.ofW (cc := cX8_setWeighing) (maxL := 3) (ret := (some .int)) (by decide) rfl ?_
  intro p e s m args below meth c s₁ B hml0 hv0
  obtain ⟨rfl, hsz, hW, hK⟩ := hv0
  subst hsz
  have C0 : gk_F p s m ([.ref (ad 0), .int a0] : List Value).toArray meth c cX8_setWeighing 3 (some .int) RX8 := ⟨B.exec, B.bytes, hml0, findClass_of_methodNamed B.named, fun w hw => atoms_spec (ws := wsX8_setWeighing) B.pre w (List.mem_cons_of_mem _ hw), B.returns, B.notSynchronized⟩
  obtain ⟨hx, hb, hml, hown, hts, hr, hlocks⟩ := id C0
  have hS : va_S (gk_A ad s.heap.size) s.heap s.heap [] := va_S.rf
  have hl := lv_entry ([.ref (ad 0), .int a0]) (n := 3) (Nat.le_of_ble_eq_true rfl)
  rw [lg_entry_eq]
  generalize (lg_sl ([.ref (ad 0), .int a0]) ++ List.replicate (3 - (lg_sl ([.ref (ad 0), .int a0])).length) Slot.unset).toArray = ls at hl ⊢
  have hl : lv_has ls 3 [(0, .ref (ad 0)), (1, .int a0)] := hl
  show W p l e rmX8_setWeighing s m _ below meth c s.heap [] 0 0 _ _
  refine lv_iload_n hx hb dX8_setWeighing_0 rfl (lv_at hl 1 rfl) ?_
  refine lv_iconst (v := 3) hx hb dX8_setWeighing_1 (by decide) ?_
  refine gk_callSi ⟨hx, hb, hml, hown, hts⟩ (c_X8_isUpTo l hw) (va_cwS 2 hts (gk_gS ml_X8_37 st_X8_isUpTo in_X8 co_X8_isUpTo) rfl rfl rfl (by decide +kernel) ⟨Nat.le_of_ble_eq_true rfl, Nat.le_of_ble_eq_true rfl⟩) hS rfl hl.1 (rest := []) rfl (lv_room (Nat.le_of_ble_eq_true rfl)) dX8_setWeighing_2 ⟨Nat.zero_le _, Nat.zero_le _⟩ (fun r2 H locs hw _ hk hS => ?_)
  have hW := hW.kept (fun k hk9 => hk _ (hW.lt hk9))
  obtain ⟨hc, hw⟩ := hw
  refine gk_callSv ⟨hx, hb, hml, hown, hts⟩ (c0_X8_checkArguments l hc) (va_cwS 1 hts (gk_gS ml_X8_41 st_X8_checkArguments in_X8 co_X8_checkArguments) rfl rfl rfl (by decide +kernel) ⟨Nat.le_of_ble_eq_true rfl, Nat.le_of_ble_eq_true rfl⟩) hS rfl hl.1 (rest := []) rfl (lv_room (Nat.le_of_ble_eq_true rfl)) dX8_setWeighing_5 ⟨Nat.zero_le _, Nat.zero_le _⟩ (fun H locs _ hk hS => ?_)
  have hW := hW.kept (fun k hk9 => hk _ (hW.lt hk9))
  refine lv_aload_n hx hb dX8_setWeighing_8 rfl (lv_at hl 0 rfl) ?_
  refine gk_get hx hb hts iwX8 hown hK.1 (gk_o0 hW) rfl 0 (by decide) (hts _ fl_X8_10) (fun _ h9 => h9) rfl dX8_setWeighing_9 ?_
  refine gk_getN hx hb hts iwX4 hown hK.1 (gk_o1 hW) rfl 5 (by decide) (gk_nw hK nf_X8_181) (fun _ h9 => h9) rfl dX8_setWeighing_12 ?_
  refine lv_istore_n (lv' := [(2, .int (σ.2 6)), (0, .ref (ad 0)), (1, .int a0)]) hx hb dX8_setWeighing_15 rfl hl (by decide) rfl (fun ls hl => ?_)
  refine lv_aload_n hx hb dX8_setWeighing_16 rfl (lv_at hl 1 rfl) ?_
  refine gk_get hx hb hts iwX8 hown hK.1 (gk_o0 hW) rfl 0 (by decide) (hts _ fl_X8_10) (fun _ h9 => h9) rfl dX8_setWeighing_17 ?_
  refine lv_iload_n hx hb dX8_setWeighing_20 rfl (lv_at hl 2 rfl) ?_
  refine gk_putN (ty := .int) (v := .int a0) hx hb hts iwX4 tyX4 tyX4_ok nmX4 hown hK.1 hS (gk_A.in (by decide)) (gk_o1 hW) rfl 5 (by decide) (gk_nw hK nf_X8_181) (fun _ h9 => h9) rfl (by decide +kernel) rfl rfl (Nat.le_of_ble_eq_true rfl) dX8_setWeighing_21 (fun H locs h1 _ oq hS => ?_)
  have hW := gk_p6 hW h1 oq
  refine lv_iload_n hx hb dX8_setWeighing_24 rfl (lv_at hl 0 rfl) ?_
  exact gk_reti C0 hw hW hS dX8_setWeighing_25
