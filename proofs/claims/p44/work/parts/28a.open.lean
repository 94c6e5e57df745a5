/-! ===== openness: the two methods that may draw ===== -/
theorem gk_F.drawn {p : Program} {s : State} {m : MethodId} {args : Array Value} {meth : Method} {c : Code} {cc : ByteArray} {nL : Nat} {ret : Option FieldType} {own : String} (h : gk_F p s m args meth c cc nL ret own) (d : Drawn) : gk_F p (s.setDrawn d) m args meth c cc nL ret own := ⟨h.1, h.2.1, h.2.2.1, h.2.2.2.1, dr_words h.2.2.2.2.1 d, h.2.2.2.2.2.1, h.2.2.2.2.2.2⟩
theorem gk_retd {p : Program} {l : Launch} {e : Env} {R : Room} {s : State} {m : MethodId} {args : Array Value} {below : List Frame} {meth : Method} {c : Code} {H : Heap} {locs : List Loc} {cells slots : Nat} {D : va_G} {cI : ClassId} {ad : Nat → Nat} {cc : ByteArray} {pc nL : Nat} {ls : Array Slot} {own : String} {Qp : UInt64 → gk_C → Prop} {v : UInt64} {u : gk_C} (C0 : gk_F p s m args meth c cc nL (some .double) own) (hq : Qp v u) (hW : gk_W D cI ad u H) (hS : va_S (gk_A ad s.heap.size) s.heap H locs) (hdg : decode cc pc = .ok (.dreturn, 1)) :
    W p l e R s m args below meth c H locs cells slots (MQ below (va_Qd Qp (gk_B D cI ad) (gk_A ad s.heap.size)) args s cells slots (gk_A ad s.heap.size)) (F0 m pc ls [.double v]) :=
  W.dret (v := v) C0.1 C0.2.1 C0.2.2.2.2.2.1 (fun t ht _ => ⟨⟨v, u, rfl, hq, by show gk_W D cI ad u t.heap; rw [ht]; exact hW⟩, hS.F ht⟩) hS.2.2 hdg (hlocks := C0.2.2.2.2.2.2)
def wL_X8_openness_66 (k91 : gk_C → Int32 → Int32 → Int32 → Prop) : Nat → gk_C → Int32 → Int32 → Int32 → Int32 → Prop
  | 0 => fun _ _ _ _ _ => False
  | n + 1 => fun σ x1 x2 x3 x4 => (((5 ≤ x4) → (k91 σ x1 x2 x3)) ∧ ((¬ 5 ≤ x4) → (w_X7_allowedTo 0 σ x3 x4 (fun r80 => wL_X8_openness_66 k91 n σ x1 (x2 + r80) x3 (x4 + 1)))))
def wL_X8_openness_49 (k97 : gk_C → Int32 → Int32 → Prop) : Nat → gk_C → Int32 → Int32 → Int32 → Prop
  | 0 => fun _ _ _ _ => False
  | n + 1 => fun σ x1 x2 x3 => ((((σ.2 0) ≤ x3) → (k97 σ x1 x2)) ∧ ((¬ (σ.2 0) ≤ x3) → (∃ n66, wL_X8_openness_66 (fun σ x1 x2 x3 => (wL_X8_openness_49 k97 n σ x1 x2 (x3 + 1))) n66 σ x1 x2 x3 0)))
def w_X8_openness (σ : gk_C)  (Q : UInt64 → gk_C → Prop) : Prop := (((0 < (((σ.2 0) * 5) * (σ.2 3))) → (w_X7_look 0 σ (σ.2 6) 0 (fun σ42 => ∃ n49, wL_X8_openness_49 (fun σ x1 x2 => (∀ r101 : UInt64, alike64 r101 (FP.ddiv (FP.i2d x2) (FP.i2d x1)) = true → Q r101 σ)) n49 σ42 (((σ.2 0) * 5) * (σ.2 3)) 0 0))) ∧ ((¬ 0 < (((σ.2 0) * 5) * (σ.2 3))) → (Q FP.dconst0 σ)))
abbrev rmX8_openness : Room := { frames := 7, cells := 0, slots := 0, locals := 163 }
set_option maxHeartbeats 4000000 in
set_option maxRecDepth 100000 in
theorem tL_X8_openness_66 {p : Program} {l : Launch} {e : Env} {s : State} {m : MethodId} {args : Array Value} {below : List Frame} {meth : Method} {c : Code} {D : va_G} {cI cZ cG cL : ClassId} {ad : Nat → Nat} (C0 : gk_F p s m args meth c cX8_openness 5 (some .double) RX8) (hK : gk_K D cI cZ cG cL s) {cs : List Choice} (hnb : nanBits ∈ cs) {Q : UInt64 → gk_C → Prop} {k91 : gk_C → Int32 → Int32 → Int32 → Prop} (hk91 : ∀ (σ : gk_C) (x1 : Int32) (x2 : Int32) (x3 : Int32), k91 σ x1 x2 x3 → ∀ (H : Heap) (locs : List Loc), gk_W D cI ad σ H → va_S (gk_A ad s.heap.size) s.heap H locs → ∀ (ls : Array Slot), lv_has ls 5 [(0, .ref (ad 0)), (1, .int x1), (2, .int x2), (3, .int x3)] → W p l e rmX8_openness s m args below meth c H locs 0 0 (MQD cs below (va_Qd (fun r u => Q r u) (gk_B D cI ad) (gk_A ad s.heap.size)) args s 0 0 (gk_A ad s.heap.size)) (F0 m 91 ls [])) : ∀ (n : Nat) (σ : gk_C) (x1 : Int32) (x2 : Int32) (x3 : Int32) (x4 : Int32), wL_X8_openness_66 k91 n σ x1 x2 x3 x4 → ∀ (H : Heap) (locs : List Loc), gk_W D cI ad σ H → va_S (gk_A ad s.heap.size) s.heap H locs → ∀ (ls : Array Slot), lv_has ls 5 [(0, .ref (ad 0)), (1, .int x1), (2, .int x2), (3, .int x3), (4, .int x4)] → W p l e rmX8_openness s m args below meth c H locs 0 0 (MQD cs below (va_Qd (fun r u => Q r u) (gk_B D cI ad) (gk_A ad s.heap.size)) args s 0 0 (gk_A ad s.heap.size)) (F0 m 66 ls []) := by
  obtain ⟨hx, hb, hml, hown, hts, hr, hlocks⟩ := id C0
  intro n
  induction n with
  | zero => exact fun _ _ _ _ _ hw => False.elim hw
  | succ n ih =>
    intro σ x1 x2 x3 x4 hw H locs hW hS ls hl
    refine lv_iload hx hb dX8_openness_66 (lv_at hl 4 rfl) ?_
    refine lv_iconst (v := 5) hx hb dX8_openness_68 (by decide) ?_
    refine lv_icmp_ge (tgt := 91) hx hb dX8_openness_69 (by decide) (fun c69 => ?_) (fun c69 => ?_)
    · have hw := hw.1 c69
      exact hk91 σ x1 x2 x3 hw _ _ hW hS _ (lv_sub hl [0, 1, 2, 3] rfl)
    · have hw := hw.2 c69
      refine lv_iload_n hx hb dX8_openness_72 rfl (lv_at hl 2 rfl) ?_
      refine lv_aload_n hx hb dX8_openness_73 rfl (lv_at hl 0 rfl) ?_
      refine gk_get hx hb hts iwX8 hown hK.1 (gk_o0 hW) rfl 1 (by decide) (hts _ fl_X8_21) (fun _ h9 => h9) rfl dX8_openness_74 ?_
      refine lv_iload_n hx hb dX8_openness_77 rfl (lv_at hl 3 rfl) ?_
      refine lv_iload hx hb dX8_openness_78 (lv_at hl 4 rfl) ?_
      refine gk_callRi ⟨hx, hb, hml, hown, hts⟩ (c_X7_allowedTo l D cI cZ cG cL ad (by decide) hw) (cwV 2 hts (gk_gV ml_X8_242 im_X7_allowedTo se_X7_allowedTo in_X7 co_X7_allowedTo) rfl rfl rfl (by decide +kernel) ⟨Nat.le_of_ble_eq_true rfl, Nat.le_of_ble_eq_true rfl⟩) (gk_recv hK.1 (gk_ov hW (v := 0) (by decide)) rfl) hW hK hS rfl hl.1 (rest := [.int x2]) rfl (lv_room (Nat.le_of_ble_eq_true rfl)) dX8_openness_80 ⟨Nat.zero_le _, Nat.zero_le _⟩ (fun r80 H locs hw hW _ hS => ?_)
      refine lv_iadd hx hb dX8_openness_83 ?_
      refine lv_istore_n (lv' := [(2, .int (x2 + r80)), (0, .ref (ad 0)), (1, .int x1), (3, .int x3), (4, .int x4)]) hx hb dX8_openness_84 rfl hl (by decide) rfl (fun ls hl => ?_)
      refine lv_iinc (v := (x4 + 1)) (lv' := [(4, .int (x4 + 1)), (2, .int (x2 + r80)), (0, .ref (ad 0)), (1, .int x1), (3, .int x3)]) hx hb dX8_openness_85 hl (k := 4) rfl rfl (by decide) rfl (fun ls hl => ?_)
      refine lv_goto (tgt := 66) hx hb dX8_openness_88 (by decide) ?_
      exact ih σ x1 (x2 + r80) x3 (x4 + 1) hw _ _ hW hS _ (lv_sub hl [2, 3, 1, 4, 0] rfl)
set_option maxHeartbeats 4000000 in
set_option maxRecDepth 100000 in
theorem tL_X8_openness_49 {p : Program} {l : Launch} {e : Env} {s : State} {m : MethodId} {args : Array Value} {below : List Frame} {meth : Method} {c : Code} {D : va_G} {cI cZ cG cL : ClassId} {ad : Nat → Nat} (C0 : gk_F p s m args meth c cX8_openness 5 (some .double) RX8) (hK : gk_K D cI cZ cG cL s) {cs : List Choice} (hnb : nanBits ∈ cs) {Q : UInt64 → gk_C → Prop} {k97 : gk_C → Int32 → Int32 → Prop} (hk97 : ∀ (σ : gk_C) (x1 : Int32) (x2 : Int32), k97 σ x1 x2 → ∀ (H : Heap) (locs : List Loc), gk_W D cI ad σ H → va_S (gk_A ad s.heap.size) s.heap H locs → ∀ (ls : Array Slot), lv_has ls 5 [(1, .int x1), (2, .int x2)] → W p l e rmX8_openness s m args below meth c H locs 0 0 (MQD cs below (va_Qd (fun r u => Q r u) (gk_B D cI ad) (gk_A ad s.heap.size)) args s 0 0 (gk_A ad s.heap.size)) (F0 m 97 ls [])) : ∀ (n : Nat) (σ : gk_C) (x1 : Int32) (x2 : Int32) (x3 : Int32), wL_X8_openness_49 k97 n σ x1 x2 x3 → ∀ (H : Heap) (locs : List Loc), gk_W D cI ad σ H → va_S (gk_A ad s.heap.size) s.heap H locs → ∀ (ls : Array Slot), lv_has ls 5 [(0, .ref (ad 0)), (1, .int x1), (2, .int x2), (3, .int x3)] → W p l e rmX8_openness s m args below meth c H locs 0 0 (MQD cs below (va_Qd (fun r u => Q r u) (gk_B D cI ad) (gk_A ad s.heap.size)) args s 0 0 (gk_A ad s.heap.size)) (F0 m 49 ls []) := by
  obtain ⟨hx, hb, hml, hown, hts, hr, hlocks⟩ := id C0
  intro n
  induction n with
  | zero => exact fun _ _ _ _ hw => False.elim hw
  | succ n ih =>
    intro σ x1 x2 x3 hw H locs hW hS ls hl
    refine lv_iload_n hx hb dX8_openness_49 rfl (lv_at hl 3 rfl) ?_
    refine lv_aload_n hx hb dX8_openness_50 rfl (lv_at hl 0 rfl) ?_
    refine gk_get hx hb hts iwX8 hown hK.1 (gk_o0 hW) rfl 0 (by decide) (hts _ fl_X8_10) (fun _ h9 => h9) rfl dX8_openness_51 ?_
    refine gk_getN hx hb hts iwX4 hown hK.1 (gk_o1 hW) rfl 0 (by decide) (gk_nw hK nf_X8_45) (fun _ h9 => h9) rfl dX8_openness_54 ?_
    refine gk_getN hx hb hts iwX6 hown hK.1 (gk_o2 hW) rfl 0 (by decide) (gk_nw hK nf_X8_49) (fun _ h9 => h9) rfl dX8_openness_57 ?_
    refine lv_icmp_ge (tgt := 97) hx hb dX8_openness_60 (by decide) (fun c60 => ?_) (fun c60 => ?_)
    · have hw := hw.1 c60
      exact hk97 σ x1 x2 hw _ _ hW hS _ (lv_sub hl [1, 2] rfl)
    · have hw := hw.2 c60
      refine lv_iconst (v := 0) hx hb dX8_openness_63 (by decide) ?_
      refine lv_istore (lv' := [(4, .int 0), (0, .ref (ad 0)), (1, .int x1), (2, .int x2), (3, .int x3)]) hx hb dX8_openness_64 hl (by decide) rfl (fun ls hl => ?_)
      obtain ⟨n66, hw⟩ := hw
      refine tL_X8_openness_66 C0 hK hnb (hk91 := ?_) n66 σ x1 x2 x3 0 hw _ _ hW hS _ (lv_sub hl [1, 2, 3, 4, 0] rfl)
      · intro σ x1 x2 x3 hw H locs hW hS ls hl
        refine lv_iinc (v := (x3 + 1)) (lv' := [(3, .int (x3 + 1)), (0, .ref (ad 0)), (1, .int x1), (2, .int x2)]) hx hb dX8_openness_91 hl (k := 3) rfl rfl (by decide) rfl (fun ls hl => ?_)
        refine lv_goto (tgt := 49) hx hb dX8_openness_94 (by decide) ?_
        exact ih σ x1 x2 (x3 + 1) hw _ _ hW hS _ (lv_sub hl [1, 2, 3, 0] rfl)
set_option maxHeartbeats 4000000 in
set_option maxRecDepth 100000 in
theorem c_X8_openness (l : Launch) (D : va_G) (cI cZ cG cL : ClassId) (ad : Nat → Nat) {σ : gk_C} {Q : UInt64 → gk_C → Prop} {sz : Nat} {cs : List Choice} (hnb : nanBits ∈ cs) (hw : w_X8_openness σ  Q) : MetD cs l yX8_openness wsX8_openness rmX8_openness (gk_Pc D cI cZ cG cL ad [.ref (ad 0)] sz σ) (va_Qd (fun r u => Q r u) (gk_B D cI ad) (gk_A ad sz)) 0 0 (gk_A ad sz) := by
  refine MetD.ofW (cc := cX8_openness) (maxL := 5) (ret := (some .double)) (by decide) rfl ?_
  intro p e s m args below meth c s₁ B hml0 hv0 _
  obtain ⟨rfl, hsz, hW, hK⟩ := hv0
  subst hsz
  have C0 : gk_F p s m ([.ref (ad 0)] : List Value).toArray meth c cX8_openness 5 (some .double) RX8 := ⟨B.exec, B.bytes, hml0, findClass_of_methodNamed B.named, fun w hw => atoms_spec (ws := wsX8_openness) B.pre w (List.mem_cons_of_mem _ hw), B.returns, B.notSynchronized⟩
  obtain ⟨hx, hb, hml, hown, hts, hr, hlocks⟩ := id C0
  have hS : va_S (gk_A ad s.heap.size) s.heap s.heap [] := va_S.rf
  have hl := lv_entry ([.ref (ad 0)]) (n := 5) (Nat.le_of_ble_eq_true rfl)
  rw [lg_entry_eq]
  generalize (lg_sl ([.ref (ad 0)]) ++ List.replicate (5 - (lg_sl ([.ref (ad 0)])).length) Slot.unset).toArray = ls at hl ⊢
  have hl : lv_has ls 5 [(0, .ref (ad 0))] := hl
  show W p l e rmX8_openness s m _ below meth c s.heap [] 0 0 _ _
  refine lv_aload_n hx hb dX8_openness_0 rfl (lv_at hl 0 rfl) ?_
  refine gk_get hx hb hts iwX8 hown hK.1 (gk_o0 hW) rfl 0 (by decide) (hts _ fl_X8_10) (fun _ h9 => h9) rfl dX8_openness_1 ?_
  refine gk_getN hx hb hts iwX4 hown hK.1 (gk_o1 hW) rfl 0 (by decide) (gk_nw hK nf_X8_45) (fun _ h9 => h9) rfl dX8_openness_4 ?_
  refine gk_getN hx hb hts iwX6 hown hK.1 (gk_o2 hW) rfl 0 (by decide) (gk_nw hK nf_X8_49) (fun _ h9 => h9) rfl dX8_openness_7 ?_
  refine lv_iconst (v := 5) hx hb dX8_openness_10 (by decide) ?_
  refine lv_imul hx hb dX8_openness_11 ?_
  refine lv_aload_n hx hb dX8_openness_12 rfl (lv_at hl 0 rfl) ?_
  refine gk_get hx hb hts iwX8 hown hK.1 (gk_o0 hW) rfl 0 (by decide) (hts _ fl_X8_10) (fun _ h9 => h9) rfl dX8_openness_13 ?_
  refine gk_getN hx hb hts iwX4 hown hK.1 (gk_o1 hW) rfl 2 (by decide) (gk_nw hK nf_X8_79) (fun _ h9 => h9) rfl dX8_openness_16 ?_
  refine gk_getN hx hb hts iwX5 hown hK.1 (gk_o4 hW) rfl 0 (by decide) (gk_nw hK nf_X8_83) (fun _ h9 => h9) rfl dX8_openness_19 ?_
  refine lv_imul hx hb dX8_openness_22 ?_
  refine lv_istore_n (lv' := [(1, .int (((σ.2 0) * 5) * (σ.2 3))), (0, .ref (ad 0))]) hx hb dX8_openness_23 rfl hl (by decide) rfl (fun ls hl => ?_)
  refine lv_iload_n hx hb dX8_openness_24 rfl (lv_at hl 0 rfl) ?_
  refine lv_if_gt (tgt := 30) hx hb dX8_openness_25 (by decide) (fun c25 => ?_) (fun c25 => ?_)
  · have hw := hw.1 c25
    refine lv_aload_n hx hb dX8_openness_30 rfl (lv_at hl 1 rfl) ?_
    refine gk_get hx hb hts iwX8 hown hK.1 (gk_o0 hW) rfl 1 (by decide) (hts _ fl_X8_21) (fun _ h9 => h9) rfl dX8_openness_31 ?_
    refine lv_aload_n hx hb dX8_openness_34 rfl (lv_at hl 1 rfl) ?_
    refine gk_get hx hb hts iwX8 hown hK.1 (gk_o0 hW) rfl 0 (by decide) (hts _ fl_X8_10) (fun _ h9 => h9) rfl dX8_openness_35 ?_
    refine gk_getN hx hb hts iwX4 hown hK.1 (gk_o1 hW) rfl 5 (by decide) (gk_nw hK nf_X8_181) (fun _ h9 => h9) rfl dX8_openness_38 ?_
    refine lv_iconst (v := 0) hx hb dX8_openness_41 (by decide) ?_
    refine gk_callVv ⟨hx, hb, hml, hown, hts⟩ (c_X7_look l D cI cZ cG cL ad (by decide) hw) (cwV 2 hts (gk_gV ml_X8_188 im_X7_look se_X7_look in_X7 co_X7_look) rfl rfl rfl (by decide +kernel) ⟨Nat.le_of_ble_eq_true rfl, Nat.le_of_ble_eq_true rfl⟩) (gk_recv hK.1 (gk_ov hW (v := 0) (by decide)) rfl) hW hK hS rfl hl.1 (rest := []) rfl (lv_room (Nat.le_of_ble_eq_true rfl)) dX8_openness_42 ⟨Nat.zero_le _, Nat.zero_le _⟩ (fun σ42 H locs hw hW _ hS => ?_)
    refine lv_iconst (v := 0) hx hb dX8_openness_45 (by decide) ?_
    refine lv_istore_n (lv' := [(2, .int 0), (1, .int (((σ.2 0) * 5) * (σ.2 3))), (0, .ref (ad 0))]) hx hb dX8_openness_46 rfl hl (by decide) rfl (fun ls hl => ?_)
    refine lv_iconst (v := 0) hx hb dX8_openness_47 (by decide) ?_
    refine lv_istore_n (lv' := [(3, .int 0), (2, .int 0), (1, .int (((σ.2 0) * 5) * (σ.2 3))), (0, .ref (ad 0))]) hx hb dX8_openness_48 rfl hl (by decide) rfl (fun ls hl => ?_)
    obtain ⟨n49, hw⟩ := hw
    refine tL_X8_openness_49 C0 hK hnb (hk97 := ?_) n49 σ42 (((σ.2 0) * 5) * (σ.2 3)) 0 0 hw _ _ hW hS _ (lv_sub hl [3, 2, 1, 0] rfl)
    · intro σ x1 x2 hw H locs hW hS ls hl
      refine lv_iload_n hx hb dX8_openness_97 rfl (lv_at hl 1 rfl) ?_
      refine lv_i2d hx hb dX8_openness_98 ?_
      refine lv_iload_n hx hb dX8_openness_99 rfl (lv_at hl 0 rfl) ?_
      refine lv_i2d hx hb dX8_openness_100 ?_
      refine W.base ?_
      refine lv_ddiv_any (Drawn.sameBut.refl s.drawn cs) hnb hx hb dX8_openness_101 (fun r101 d1 hal hd1 => ?_)
      have hw := hw r101 hal
      refine W.endD hd1 ?_
      exact gk_retd (gk_F.drawn C0 d1) hw hW hS dX8_openness_102
  · have hw := hw.2 c25
    refine lv_dconst0 hx hb dX8_openness_28 ?_
    refine W.base ?_
    refine W.endD (Drawn.sameBut.refl s.drawn cs) ?_
    exact gk_retd C0 hw hW hS dX8_openness_29
