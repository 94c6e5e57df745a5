/-! laid by wip/p44/classx.py: wp predicates and walks -/
def wL_X9_near_17 (wr : nk_C → Nat → Int32 → Int32 → (Int32 → Prop) → Prop) (σ : nk_C) (z0 : Nat) (k68 : Int32 → Prop) : Nat → Int32 → Int32 → Int32 → Int32 → Prop
  | 0 => fun _ _ _ _ => False
  | n + 1 => fun x2 x3 x4 x5 => ((((σ.2.2 9) ≤ x5) → (k68 x4)) ∧ ((¬ (σ.2.2 9) ≤ x5) → (((x3 ≤ 1) → (k68 x4)) ∧ ((¬ x3 ≤ 1) → (vp_in x5 5 ∧ vp_in x2 5 ∧ (((σ.2.1 (26 + x5.toNatClampNeg) x2.toNatClampNeg) = 0) → (wL_X9_near_17 wr σ z0 k68 n x2 x3 x4 (x5 + 1))) ∧ ((¬ (σ.2.1 (26 + x5.toNatClampNeg) x2.toNatClampNeg) = 0) → (wr σ z0 x5 (x3 - 1) (fun r53 => wL_X9_near_17 wr σ z0 k68 n x2 x3 (if (1 + r53) < x4 then (1 + r53) else x4) (x5 + 1)))))))))
def wJ_X9_near_68 (wr : nk_C → Nat → Int32 → Int32 → (Int32 → Prop) → Prop) (σ : nk_C) (z0 : Nat) (Q : Int32 → Prop) (x4 : Int32) : Prop := (Q (if 99 < x4 then 99 else x4))
def w_X9_near (wr : nk_C → Nat → Int32 → Int32 → (Int32 → Prop) → Prop) (σ : nk_C) (z0 : Nat) (a1 : Int32) (a2 : Int32) (Q : Int32 → Prop) : Prop := (vp_in a1 5 ∧ (((σ.2.1 z0 a1.toNatClampNeg) = 0) → (∃ n17, wL_X9_near_17 wr σ z0 (fun x4 => (wJ_X9_near_68 wr σ z0 Q x4)) n17 a1 a2 99 0)) ∧ ((¬ (σ.2.1 z0 a1.toNatClampNeg) = 0) → (∃ n17, wL_X9_near_17 wr σ z0 (fun x4 => (wJ_X9_near_68 wr σ z0 Q x4)) n17 a1 a2 1 0)))
def wd_X9_near : Nat → nk_C → Nat → Int32 → Int32 → (Int32 → Prop) → Prop
  | 0 => fun _ _ _ _ _ => False
  | d + 1 => fun σ z0 a1 a2 Q => w_X9_near (wd_X9_near d) σ z0 a1 a2 Q
abbrev rmX9_near (d : Nat) : Room := { frames := d + 1, cells := 0, slots := 0, locals := 40 * (d + 1) }
set_option maxHeartbeats 4000000 in
set_option maxRecDepth 100000 in
theorem tL_X9_near_17 {p : Program} {l : Launch} {e : Env} {s : State} {m : MethodId} {args : Array Value} {below : List Frame} {meth : Method} {c : Code} {D : va_G} {cI cZ cG cL : ClassId} {ad am : Nat → Nat} {q1 q2 q3 b0 L : Nat} {xs : Nat → Int32} (C0 : gk_F p s m args meth c cX9_near 6 (some .int) RX9) (hK : gk_K D cI cZ cG cL s) (hZ : nk_Z q1 q2 q3 b0 L xs (nk_A ad am s.heap.size) s s.heap) {z0 : Nat} (hz0 : 22 ≤ z0 ∧ z0 < 36) {wr : nk_C → Nat → Int32 → Int32 → (Int32 → Prop) → Prop} {d : Nat} (hrec : ∀ (σ : nk_C) (z0 : Nat) (a1 : Int32) (a2 : Int32) (Q : Int32 → Prop) (sz : Nat), (22 ≤ z0 ∧ z0 < 36) → wr σ z0 a1 a2 Q → Met l yX9_near wsX9_near (rmX9_near d) (nk_Pc D cI cZ cG cL ad am q1 q2 q3 b0 L xs [.ref (am 0), .ref (am z0), .int a1, .int a2] sz σ (fun _ => True)) (va_Qi (fun r u => u = σ ∧ Q r) (nk_B D cI cZ cL ad am b0) (nk_A ad am sz)) 0 0 (nk_A ad am sz)) {σ : nk_C} {Q : Int32 → Prop} {k68 : Int32 → Prop} (hk68 : ∀ (x4 : Int32), k68 x4 → ∀ (H : Heap) (locs : List Loc), nk_W D cI cZ cL ad am b0 σ H → va_S (nk_A ad am s.heap.size) s.heap H locs → ∀ (ls : Array Slot), lv_has ls 6 [(4, .int x4)] → W p l e (rmX9_near (d + 1)) s m args below meth c H locs 0 0 (MQ below (va_Qi (fun r u => u = σ ∧ Q r) (nk_B D cI cZ cL ad am b0) (nk_A ad am s.heap.size)) args s 0 0 (nk_A ad am s.heap.size)) (F0 m 68 ls [])) : ∀ (n : Nat) (x2 : Int32) (x3 : Int32) (x4 : Int32) (x5 : Int32), wL_X9_near_17 wr σ z0 k68 n x2 x3 x4 x5 → ∀ (H : Heap) (locs : List Loc), nk_W D cI cZ cL ad am b0 σ H → va_S (nk_A ad am s.heap.size) s.heap H locs → ∀ (ls : Array Slot), lv_has ls 6 [(0, .ref (am 0)), (1, .ref (am z0)), (2, .int x2), (3, .int x3), (4, .int x4), (5, .int x5)] → W p l e (rmX9_near (d + 1)) s m args below meth c H locs 0 0 (MQ below (va_Qi (fun r u => u = σ ∧ Q r) (nk_B D cI cZ cL ad am b0) (nk_A ad am s.heap.size)) args s 0 0 (nk_A ad am s.heap.size)) (F0 m 17 ls []) := by
  obtain ⟨hx, hb, hml, hown, hts, hr, hlocks⟩ := id C0
  intro n
  induction n with
  | zero => exact fun _ _ _ _ hw => False.elim hw
  | succ n ih =>
    intro x2 x3 x4 x5 hw H locs hW hS  ls hl
    refine lv_iload hx hb dX9_near_17 (lv_at hl 5 rfl) ?_
    refine lv_aload_n hx hb dX9_near_19 rfl (lv_at hl 0 rfl) ?_
    refine gk_get hx hb hts iwX9 hown hK.1 (nk_obj hW) rfl 9 (by decide) (hts _ fl_X9_92) (fun _ h9 => h9) rfl dX9_near_20 ?_
    refine lv_icmp_ge (tgt := 68) hx hb dX9_near_23 (by decide) (fun c23 => ?_) (fun c23 => ?_)
    · have hw := hw.1 c23
      exact hk68 x4 hw _ _ hW hS  _ (lv_sub hl [4] rfl)
    · have hw := hw.2 c23
      refine lv_iload_n hx hb dX9_near_26 rfl (lv_at hl 3 rfl) ?_
      refine lv_iconst (v := 1) hx hb dX9_near_27 (by decide) ?_
      refine lv_icmp_le (tgt := 68) hx hb dX9_near_28 (by decide) (fun c28 => ?_) (fun c28 => ?_)
      · have hw := hw.1 c28
        exact hk68 x4 hw _ _ hW hS  _ (lv_sub hl [4] rfl)
      · have hw := hw.2 c28
        refine lv_aload_n hx hb dX9_near_31 rfl (lv_at hl 0 rfl) ?_
        refine gk_get hx hb hts iwX9 hown hK.1 (nk_obj hW) rfl 10 (by decide) (hts _ fl_X9_28) (fun _ h9 => h9) rfl dX9_near_32 ?_
        refine lv_iload hx hb dX9_near_35 (lv_at hl 5 rfl) ?_
        obtain ⟨hin, hw⟩ := hw
        refine nk_aalz hx hb hK (nk_o10 hW) hin (by decide) dX9_near_37 (fun hz37 => ?_)
        refine lv_iload_n hx hb dX9_near_38 rfl (lv_at hl 2 rfl) ?_
        obtain ⟨hin, hw⟩ := hw
        refine gk_zald hx hb hK.1 1 (nk_zr hW hz37) rfl hin dX9_near_39 ?_
        refine lv_if_eq (tgt := 62) hx hb dX9_near_40 (by decide) (fun c40 => ?_) (fun c40 => ?_)
        · have hw := hw.1 c40
          refine lv_iinc (v := (x5 + 1)) (lv' := [(5, .int (x5 + 1)), (0, .ref (am 0)), (1, .ref (am z0)), (2, .int x2), (3, .int x3), (4, .int x4)]) hx hb dX9_near_62 hl (k := 5) rfl rfl (by decide) rfl (fun ls hl => ?_)
          refine lv_goto (tgt := 17) hx hb dX9_near_65 (by decide) ?_
          exact ih x2 x3 x4 (x5 + 1) hw _ _ hW hS  _ (lv_sub hl [1, 2, 3, 4, 5, 0] rfl)
        · have hw := hw.2 c40
          refine lv_iload hx hb dX9_near_43 (lv_at hl 4 rfl) ?_
          refine lv_iconst (v := 1) hx hb dX9_near_45 (by decide) ?_
          refine lv_aload_n hx hb dX9_near_46 rfl (lv_at hl 0 rfl) ?_
          refine lv_aload_n hx hb dX9_near_47 rfl (lv_at hl 1 rfl) ?_
          refine lv_iload hx hb dX9_near_48 (lv_at hl 5 rfl) ?_
          refine lv_iload_n hx hb dX9_near_50 rfl (lv_at hl 3 rfl) ?_
          refine lv_iconst (v := 1) hx hb dX9_near_51 (by decide) ?_
          refine lv_isub hx hb dX9_near_52 ?_
          refine nk_callRi ⟨hx, hb, hml, hown, hts⟩ (hrec _ _ _ _ _ _ hz0 hw) (cwV 3 hts (gk_gV ml_X9_107 im_X9_near se_X9_near in_X9 co_X9_near) rfl rfl rfl (by decide +kernel) ⟨by show d + 1 + 1 ≤ d + 1 + 1; omega, by show 8 + (6 + 11) + 40 * (d + 1) ≤ 40 * (d + 1 + 1); omega⟩) (gk_recv hK.1 (nk_obj hW) rfl) hW hK hZ trivial hS (nk_A.up hS.1) rfl hl.1 (rest := [.int 1, .int x4]) rfl (lv_room (Nat.le_of_ble_eq_true rfl)) dX9_near_53 ⟨Nat.le_of_ble_eq_true rfl, Nat.le_of_ble_eq_true rfl⟩ (fun r53 H locs hw hW _ hk hS => ?_)
          refine lv_iadd hx hb dX9_near_56 ?_
          refine va_mmin hx hb (hml.trans hl.1.symm) hown (hts _ ml_X9_111) (hts _ st_J9_min_7cf53) (hts _ in_J9) (hts _ co_J9_min_7cf53) (by show _ ≤ d + 1 + 1; omega) (Nat.le_trans (m := 80) (Nat.le_of_ble_eq_true rfl) (by show 80 ≤ 40 * (d + 1 + 1); omega)) (Nat.zero_le _) (Nat.zero_le _) dX9_near_57 ?_
          refine lv_istore (lv' := [(4, .int (if (1 + r53) < x4 then (1 + r53) else x4)), (0, .ref (am 0)), (1, .ref (am z0)), (2, .int x2), (3, .int x3), (5, .int x5)]) hx hb dX9_near_60 hl (by decide) rfl (fun ls hl => ?_)
          refine lv_iinc (v := (x5 + 1)) (lv' := [(5, .int (x5 + 1)), (4, .int (if (1 + r53) < x4 then (1 + r53) else x4)), (0, .ref (am 0)), (1, .ref (am z0)), (2, .int x2), (3, .int x3)]) hx hb dX9_near_62 hl (k := 5) rfl rfl (by decide) rfl (fun ls hl => ?_)
          refine lv_goto (tgt := 17) hx hb dX9_near_65 (by decide) ?_
          exact ih x2 x3 (if (1 + r53) < x4 then (1 + r53) else x4) (x5 + 1) hw _ _ hW hS  _ (lv_sub hl [2, 3, 4, 5, 1, 0] rfl)
set_option maxHeartbeats 4000000 in
set_option maxRecDepth 100000 in
theorem tJ_X9_near_68 {p : Program} {l : Launch} {e : Env} {s : State} {m : MethodId} {args : Array Value} {below : List Frame} {meth : Method} {c : Code} {D : va_G} {cI cZ cG cL : ClassId} {ad am : Nat → Nat} {q1 q2 q3 b0 L : Nat} {xs : Nat → Int32} (C0 : gk_F p s m args meth c cX9_near 6 (some .int) RX9) (hK : gk_K D cI cZ cG cL s) (hZ : nk_Z q1 q2 q3 b0 L xs (nk_A ad am s.heap.size) s s.heap) {z0 : Nat} (hz0 : 22 ≤ z0 ∧ z0 < 36) {wr : nk_C → Nat → Int32 → Int32 → (Int32 → Prop) → Prop} {d : Nat} (hrec : ∀ (σ : nk_C) (z0 : Nat) (a1 : Int32) (a2 : Int32) (Q : Int32 → Prop) (sz : Nat), (22 ≤ z0 ∧ z0 < 36) → wr σ z0 a1 a2 Q → Met l yX9_near wsX9_near (rmX9_near d) (nk_Pc D cI cZ cG cL ad am q1 q2 q3 b0 L xs [.ref (am 0), .ref (am z0), .int a1, .int a2] sz σ (fun _ => True)) (va_Qi (fun r u => u = σ ∧ Q r) (nk_B D cI cZ cL ad am b0) (nk_A ad am sz)) 0 0 (nk_A ad am sz)) {σ : nk_C} {Q : Int32 → Prop} : ∀ (x4 : Int32), wJ_X9_near_68 wr σ z0 Q x4 → ∀ (H : Heap) (locs : List Loc), nk_W D cI cZ cL ad am b0 σ H → va_S (nk_A ad am s.heap.size) s.heap H locs → ∀ (ls : Array Slot), lv_has ls 6 [(4, .int x4)] → W p l e (rmX9_near (d + 1)) s m args below meth c H locs 0 0 (MQ below (va_Qi (fun r u => u = σ ∧ Q r) (nk_B D cI cZ cL ad am b0) (nk_A ad am s.heap.size)) args s 0 0 (nk_A ad am s.heap.size)) (F0 m 68 ls []) := by
  obtain ⟨hx, hb, hml, hown, hts, hr, hlocks⟩ := id C0
  intro x4 hw H locs hW hS  ls hl
  refine lv_iload hx hb dX9_near_68 (lv_at hl 0 rfl) ?_
  refine lv_bipush (v := 99) hx hb dX9_near_70 (by decide) ?_
  refine va_mmin hx hb (hml.trans hl.1.symm) hown (hts _ ml_X9_111) (hts _ st_J9_min_7cf53) (hts _ in_J9) (hts _ co_J9_min_7cf53) (by show _ ≤ d + 1 + 1; omega) (Nat.le_trans (m := 80) (Nat.le_of_ble_eq_true rfl) (by show 80 ≤ 40 * (d + 1 + 1); omega)) (Nat.zero_le _) (Nat.zero_le _) dX9_near_72 ?_
  refine W.widen (k := 0) (n := 0) (Nat.le_of_ble_eq_true rfl) (Nat.le_of_ble_eq_true rfl) ?_
  exact nk_reti C0 ⟨rfl, hw⟩ hW hS dX9_near_75
set_option maxHeartbeats 4000000 in
set_option maxRecDepth 100000 in
theorem cs_X9_near (l : Launch) (D : va_G) (cI cZ cG cL : ClassId) (ad am : Nat → Nat) (q1 q2 q3 b0 L : Nat) (xs : Nat → Int32) {wr : nk_C → Nat → Int32 → Int32 → (Int32 → Prop) → Prop} {d : Nat} (hrec : ∀ (σ : nk_C) (z0 : Nat) (a1 : Int32) (a2 : Int32) (Q : Int32 → Prop) (sz : Nat), (22 ≤ z0 ∧ z0 < 36) → wr σ z0 a1 a2 Q → Met l yX9_near wsX9_near (rmX9_near d) (nk_Pc D cI cZ cG cL ad am q1 q2 q3 b0 L xs [.ref (am 0), .ref (am z0), .int a1, .int a2] sz σ (fun _ => True)) (va_Qi (fun r u => u = σ ∧ Q r) (nk_B D cI cZ cL ad am b0) (nk_A ad am sz)) 0 0 (nk_A ad am sz)) {σ : nk_C} {z0 : Nat} {a1 : Int32} {a2 : Int32} (hz0 : 22 ≤ z0 ∧ z0 < 36) {Q : Int32 → Prop} {sz : Nat} (hw : w_X9_near wr σ z0 a1 a2 Q) : Met l yX9_near wsX9_near (rmX9_near (d + 1)) (nk_Pc D cI cZ cG cL ad am q1 q2 q3 b0 L xs [.ref (am 0), .ref (am z0), .int a1, .int a2] sz σ (fun _ => True)) (va_Qi (fun r u => u = σ ∧ Q r) (nk_B D cI cZ cL ad am b0) (nk_A ad am sz)) 0 0 (nk_A ad am sz) := by
  refine Met.ofW (cc := cX9_near) (maxL := 6) (ret := (some .int)) (by decide) rfl ?_
  intro p e s m args below meth c s₁ B hml0 hv0
  obtain ⟨rfl, hsz, hW, hK, hZ, hX⟩ := hv0
  subst hsz
  have C0 : gk_F p s m ([.ref (am 0), .ref (am z0), .int a1, .int a2] : List Value).toArray meth c cX9_near 6 (some .int) RX9 := ⟨B.exec, B.bytes, hml0, findClass_of_methodNamed B.named, fun w hw => atoms_spec (ws := wsX9_near) B.pre w (List.mem_cons_of_mem _ hw), B.returns, B.notSynchronized⟩
  obtain ⟨hx, hb, hml, hown, hts, hr, hlocks⟩ := id C0
  have hS : va_S (nk_A ad am s.heap.size) s.heap s.heap [] := va_S.rf
  have hl := lv_entry ([.ref (am 0), .ref (am z0), .int a1, .int a2]) (n := 6) (Nat.le_of_ble_eq_true rfl)
  rw [lg_entry_eq]
  generalize (lg_sl ([.ref (am 0), .ref (am z0), .int a1, .int a2]) ++ List.replicate (6 - (lg_sl ([.ref (am 0), .ref (am z0), .int a1, .int a2])).length) Slot.unset).toArray = ls at hl ⊢
  have hl : lv_has ls 6 [(0, .ref (am 0)), (1, .ref (am z0)), (2, .int a1), (3, .int a2)] := hl
  show W p l e (rmX9_near (d + 1)) s m _ below meth c s.heap [] 0 0 _ _
  refine lv_aload_n hx hb dX9_near_0 rfl (lv_at hl 1 rfl) ?_
  refine lv_iload_n hx hb dX9_near_1 rfl (lv_at hl 2 rfl) ?_
  obtain ⟨hin, hw⟩ := hw
  refine gk_zald hx hb hK.1 1 (nk_zr hW hz0) rfl hin dX9_near_2 ?_
  refine lv_if_eq (tgt := 10) hx hb dX9_near_3 (by decide) (fun c3 => ?_) (fun c3 => ?_)
  · have hw := hw.1 c3
    refine lv_bipush (v := 99) hx hb dX9_near_10 (by decide) ?_
    refine lv_istore (lv' := [(4, .int 99), (0, .ref (am 0)), (1, .ref (am z0)), (2, .int a1), (3, .int a2)]) hx hb dX9_near_12 hl (by decide) rfl (fun ls hl => ?_)
    refine lv_iconst (v := 0) hx hb dX9_near_14 (by decide) ?_
    refine lv_istore (lv' := [(5, .int 0), (4, .int 99), (0, .ref (am 0)), (1, .ref (am z0)), (2, .int a1), (3, .int a2)]) hx hb dX9_near_15 hl (by decide) rfl (fun ls hl => ?_)
    obtain ⟨n17, hw⟩ := hw
    refine tL_X9_near_17 C0 hK hZ hz0 hrec (hk68 := ?_) n17 a1 a2 99 0 hw _ _ hW hS  _ (lv_sub hl [2, 3, 4, 5, 1, 0] rfl)
    · intro x4 hw H locs hW hS  ls hl
      refine tJ_X9_near_68 C0 hK hZ hz0 hrec  x4 hw _ _ hW hS  _ hl
  · have hw := hw.2 c3
    refine lv_iconst (v := 1) hx hb dX9_near_6 (by decide) ?_
    refine lv_goto (tgt := 12) hx hb dX9_near_7 (by decide) ?_
    refine lv_istore (lv' := [(4, .int 1), (0, .ref (am 0)), (1, .ref (am z0)), (2, .int a1), (3, .int a2)]) hx hb dX9_near_12 hl (by decide) rfl (fun ls hl => ?_)
    refine lv_iconst (v := 0) hx hb dX9_near_14 (by decide) ?_
    refine lv_istore (lv' := [(5, .int 0), (4, .int 1), (0, .ref (am 0)), (1, .ref (am z0)), (2, .int a1), (3, .int a2)]) hx hb dX9_near_15 hl (by decide) rfl (fun ls hl => ?_)
    obtain ⟨n17, hw⟩ := hw
    refine tL_X9_near_17 C0 hK hZ hz0 hrec (hk68 := ?_) n17 a1 a2 1 0 hw _ _ hW hS  _ (lv_sub hl [2, 3, 4, 5, 1, 0] rfl)
    · intro x4 hw H locs hW hS  ls hl
      refine tJ_X9_near_68 C0 hK hZ hz0 hrec  x4 hw _ _ hW hS  _ hl
theorem c_X9_near (l : Launch) (D : va_G) (cI cZ cG cL : ClassId) (ad am : Nat → Nat) (q1 q2 q3 b0 L : Nat) (xs : Nat → Int32) : ∀ (d : Nat) {σ : nk_C} {z0 : Nat} {a1 : Int32} {a2 : Int32} (hz0 : 22 ≤ z0 ∧ z0 < 36) {Q : Int32 → Prop} {sz : Nat}, wd_X9_near d σ z0 a1 a2 Q → Met l yX9_near wsX9_near (rmX9_near d) (nk_Pc D cI cZ cG cL ad am q1 q2 q3 b0 L xs [.ref (am 0), .ref (am z0), .int a1, .int a2] sz σ (fun _ => True)) (va_Qi (fun r u => u = σ ∧ Q r) (nk_B D cI cZ cL ad am b0) (nk_A ad am sz)) 0 0 (nk_A ad am sz) := by
  intro d
  induction d with
  | zero => exact fun {σ} {z0} {a1} {a2} hz0 {Q} {sz} hw => False.elim hw
  | succ d ih => exact fun {σ} {z0} {a1} {a2} hz0 {Q} {sz} hw => cs_X9_near l D cI cZ cG cL ad am q1 q2 q3 b0 L xs (fun σ z0 a1 a2 Q sz hz0 hw => ih hz0 hw) hz0 hw
def wL_X9_isHeld_10 (wr : nk_C → Int32 → Int32 → Int32 → (Int32 → Prop) → Prop) (σ : nk_C) (Q : Int32 → Prop) : Nat → Int32 → Int32 → Int32 → Int32 → Prop
  | 0 => fun _ _ _ _ => False
  | n + 1 => fun x1 x2 x3 x4 => ((((σ.2.2 9) ≤ x4) → (Q 0)) ∧ ((¬ (σ.2.2 9) ≤ x4) → (((x3 ≤ 0) → (Q 0)) ∧ ((¬ x3 ≤ 0) → (vp_in x1 5 ∧ vp_in x4 5 ∧ (((σ.2.1 (26 + x1.toNatClampNeg) x4.toNatClampNeg) = 0) → (wL_X9_isHeld_10 wr σ Q n x1 x2 x3 (x4 + 1))) ∧ ((¬ (σ.2.1 (26 + x1.toNatClampNeg) x4.toNatClampNeg) = 0) → (wr σ x4 x2 (x3 - 1) (fun r42 => ((r42 = 0) → (wL_X9_isHeld_10 wr σ Q n x1 x2 x3 (x4 + 1))) ∧ ((¬ r42 = 0) → (Q 1))))))))))
def w_X9_isHeld (wr : nk_C → Int32 → Int32 → Int32 → (Int32 → Prop) → Prop) (σ : nk_C) (a0 : Int32) (a1 : Int32) (a2 : Int32) (Q : Int32 → Prop) : Prop := (((¬ a0 = a1) → (∃ n10, wL_X9_isHeld_10 wr σ Q n10 a0 a1 a2 0)) ∧ ((a0 = a1) → (Q 1)))
def wd_X9_isHeld : Nat → nk_C → Int32 → Int32 → Int32 → (Int32 → Prop) → Prop
  | 0 => fun _ _ _ _ _ => False
  | d + 1 => fun σ a0 a1 a2 Q => w_X9_isHeld (wd_X9_isHeld d) σ a0 a1 a2 Q
abbrev rmX9_isHeld (d : Nat) : Room := { frames := d + 1, cells := 0, slots := 0, locals := 40 * (d + 1) }
set_option maxHeartbeats 4000000 in
set_option maxRecDepth 100000 in
theorem tL_X9_isHeld_10 {p : Program} {l : Launch} {e : Env} {s : State} {m : MethodId} {args : Array Value} {below : List Frame} {meth : Method} {c : Code} {D : va_G} {cI cZ cG cL : ClassId} {ad am : Nat → Nat} {q1 q2 q3 b0 L : Nat} {xs : Nat → Int32} (C0 : gk_F p s m args meth c cX9_isHeld 5 (some .boolean) RX9) (hK : gk_K D cI cZ cG cL s) (hZ : nk_Z q1 q2 q3 b0 L xs (nk_A ad am s.heap.size) s s.heap) {wr : nk_C → Int32 → Int32 → Int32 → (Int32 → Prop) → Prop} {d : Nat} (hrec : ∀ (σ : nk_C) (a0 : Int32) (a1 : Int32) (a2 : Int32) (Q : Int32 → Prop) (sz : Nat), wr σ a0 a1 a2 Q → Met l yX9_isHeld wsX9_isHeld (rmX9_isHeld d) (nk_Pc D cI cZ cG cL ad am q1 q2 q3 b0 L xs [.ref (am 0), .int a0, .int a1, .int a2] sz σ (fun _ => True)) (va_Qi (fun r u => u = σ ∧ Q r) (nk_B D cI cZ cL ad am b0) (nk_A ad am sz)) 0 0 (nk_A ad am sz)) {σ : nk_C} {Q : Int32 → Prop} : ∀ (n : Nat) (x1 : Int32) (x2 : Int32) (x3 : Int32) (x4 : Int32), wL_X9_isHeld_10 wr σ Q n x1 x2 x3 x4 → ∀ (H : Heap) (locs : List Loc), nk_W D cI cZ cL ad am b0 σ H → va_S (nk_A ad am s.heap.size) s.heap H locs → ∀ (ls : Array Slot), lv_has ls 5 [(0, .ref (am 0)), (1, .int x1), (2, .int x2), (3, .int x3), (4, .int x4)] → W p l e (rmX9_isHeld (d + 1)) s m args below meth c H locs 0 0 (MQ below (va_Qi (fun r u => u = σ ∧ Q r) (nk_B D cI cZ cL ad am b0) (nk_A ad am s.heap.size)) args s 0 0 (nk_A ad am s.heap.size)) (F0 m 10 ls []) := by
  obtain ⟨hx, hb, hml, hown, hts, hr, hlocks⟩ := id C0
  intro n
  induction n with
  | zero => exact fun _ _ _ _ hw => False.elim hw
  | succ n ih =>
    intro x1 x2 x3 x4 hw H locs hW hS  ls hl
    refine lv_iload hx hb dX9_isHeld_10 (lv_at hl 4 rfl) ?_
    refine lv_aload_n hx hb dX9_isHeld_12 rfl (lv_at hl 0 rfl) ?_
    refine gk_get hx hb hts iwX9 hown hK.1 (nk_obj hW) rfl 9 (by decide) (hts _ fl_X9_92) (fun _ h9 => h9) rfl dX9_isHeld_13 ?_
    refine lv_icmp_ge (tgt := 56) hx hb dX9_isHeld_16 (by decide) (fun c16 => ?_) (fun c16 => ?_)
    · have hw := hw.1 c16
      refine lv_iconst (v := 0) hx hb dX9_isHeld_56 (by decide) ?_
      refine W.widen (k := 0) (n := 0) (Nat.le_of_ble_eq_true rfl) (Nat.le_of_ble_eq_true rfl) ?_
      exact nk_retz C0 (by decide) ⟨rfl, hw⟩ hW hS dX9_isHeld_57
    · have hw := hw.2 c16
      refine lv_iload_n hx hb dX9_isHeld_19 rfl (lv_at hl 3 rfl) ?_
      refine lv_if_le (tgt := 56) hx hb dX9_isHeld_20 (by decide) (fun c20 => ?_) (fun c20 => ?_)
      · have hw := hw.1 c20
        refine lv_iconst (v := 0) hx hb dX9_isHeld_56 (by decide) ?_
        refine W.widen (k := 0) (n := 0) (Nat.le_of_ble_eq_true rfl) (Nat.le_of_ble_eq_true rfl) ?_
        exact nk_retz C0 (by decide) ⟨rfl, hw⟩ hW hS dX9_isHeld_57
      · have hw := hw.2 c20
        refine lv_aload_n hx hb dX9_isHeld_23 rfl (lv_at hl 0 rfl) ?_
        refine gk_get hx hb hts iwX9 hown hK.1 (nk_obj hW) rfl 10 (by decide) (hts _ fl_X9_28) (fun _ h9 => h9) rfl dX9_isHeld_24 ?_
        refine lv_iload_n hx hb dX9_isHeld_27 rfl (lv_at hl 1 rfl) ?_
        obtain ⟨hin, hw⟩ := hw
        refine nk_aalz hx hb hK (nk_o10 hW) hin (by decide) dX9_isHeld_28 (fun hz28 => ?_)
        refine lv_iload hx hb dX9_isHeld_29 (lv_at hl 4 rfl) ?_
        obtain ⟨hin, hw⟩ := hw
        refine gk_zald hx hb hK.1 1 (nk_zr hW hz28) rfl hin dX9_isHeld_31 ?_
        refine lv_if_eq (tgt := 50) hx hb dX9_isHeld_32 (by decide) (fun c32 => ?_) (fun c32 => ?_)
        · have hw := hw.1 c32
          refine lv_iinc (v := (x4 + 1)) (lv' := [(4, .int (x4 + 1)), (0, .ref (am 0)), (1, .int x1), (2, .int x2), (3, .int x3)]) hx hb dX9_isHeld_50 hl (k := 4) rfl rfl (by decide) rfl (fun ls hl => ?_)
          refine lv_goto (tgt := 10) hx hb dX9_isHeld_53 (by decide) ?_
          exact ih x1 x2 x3 (x4 + 1) hw _ _ hW hS  _ (lv_sub hl [1, 2, 3, 4, 0] rfl)
        · have hw := hw.2 c32
          refine lv_aload_n hx hb dX9_isHeld_35 rfl (lv_at hl 0 rfl) ?_
          refine lv_iload hx hb dX9_isHeld_36 (lv_at hl 4 rfl) ?_
          refine lv_iload_n hx hb dX9_isHeld_38 rfl (lv_at hl 2 rfl) ?_
          refine lv_iload_n hx hb dX9_isHeld_39 rfl (lv_at hl 3 rfl) ?_
          refine lv_iconst (v := 1) hx hb dX9_isHeld_40 (by decide) ?_
          refine lv_isub hx hb dX9_isHeld_41 ?_
          refine nk_callRi ⟨hx, hb, hml, hown, hts⟩ (hrec _ _ _ _ _ _ hw) (cwV 3 hts (gk_gV ml_X9_116 im_X9_isHeld se_X9_isHeld in_X9 co_X9_isHeld) rfl rfl rfl (by decide +kernel) ⟨by show d + 1 + 1 ≤ d + 1 + 1; omega, by show 8 + (5 + 11) + 40 * (d + 1) ≤ 40 * (d + 1 + 1); omega⟩) (gk_recv hK.1 (nk_obj hW) rfl) hW hK hZ trivial hS (nk_A.up hS.1) rfl hl.1 (rest := []) rfl (lv_room (Nat.le_of_ble_eq_true rfl)) dX9_isHeld_42 ⟨Nat.le_of_ble_eq_true rfl, Nat.le_of_ble_eq_true rfl⟩ (fun r42 H locs hw hW _ hk hS => ?_)
          refine lv_if_eq (tgt := 50) hx hb dX9_isHeld_45 (by decide) (fun c45 => ?_) (fun c45 => ?_)
          · have hw := hw.1 c45
            refine lv_iinc (v := (x4 + 1)) (lv' := [(4, .int (x4 + 1)), (0, .ref (am 0)), (1, .int x1), (2, .int x2), (3, .int x3)]) hx hb dX9_isHeld_50 hl (k := 4) rfl rfl (by decide) rfl (fun ls hl => ?_)
            refine lv_goto (tgt := 10) hx hb dX9_isHeld_53 (by decide) ?_
            exact ih x1 x2 x3 (x4 + 1) hw _ _ hW hS  _ (lv_sub hl [1, 2, 3, 4, 0] rfl)
          · have hw := hw.2 c45
            refine lv_iconst (v := 1) hx hb dX9_isHeld_48 (by decide) ?_
            refine W.widen (k := 0) (n := 0) (Nat.le_of_ble_eq_true rfl) (Nat.le_of_ble_eq_true rfl) ?_
            exact nk_retz C0 (by decide) ⟨rfl, hw⟩ hW hS dX9_isHeld_49
set_option maxHeartbeats 4000000 in
set_option maxRecDepth 100000 in
theorem cs_X9_isHeld (l : Launch) (D : va_G) (cI cZ cG cL : ClassId) (ad am : Nat → Nat) (q1 q2 q3 b0 L : Nat) (xs : Nat → Int32) {wr : nk_C → Int32 → Int32 → Int32 → (Int32 → Prop) → Prop} {d : Nat} (hrec : ∀ (σ : nk_C) (a0 : Int32) (a1 : Int32) (a2 : Int32) (Q : Int32 → Prop) (sz : Nat), wr σ a0 a1 a2 Q → Met l yX9_isHeld wsX9_isHeld (rmX9_isHeld d) (nk_Pc D cI cZ cG cL ad am q1 q2 q3 b0 L xs [.ref (am 0), .int a0, .int a1, .int a2] sz σ (fun _ => True)) (va_Qi (fun r u => u = σ ∧ Q r) (nk_B D cI cZ cL ad am b0) (nk_A ad am sz)) 0 0 (nk_A ad am sz)) {σ : nk_C} {a0 : Int32} {a1 : Int32} {a2 : Int32} {Q : Int32 → Prop} {sz : Nat} (hw : w_X9_isHeld wr σ a0 a1 a2 Q) : Met l yX9_isHeld wsX9_isHeld (rmX9_isHeld (d + 1)) (nk_Pc D cI cZ cG cL ad am q1 q2 q3 b0 L xs [.ref (am 0), .int a0, .int a1, .int a2] sz σ (fun _ => True)) (va_Qi (fun r u => u = σ ∧ Q r) (nk_B D cI cZ cL ad am b0) (nk_A ad am sz)) 0 0 (nk_A ad am sz) := by
  refine Met.ofW (cc := cX9_isHeld) (maxL := 5) (ret := (some .boolean)) (by decide) rfl ?_
  intro p e s m args below meth c s₁ B hml0 hv0
  obtain ⟨rfl, hsz, hW, hK, hZ, hX⟩ := hv0
  subst hsz
  have C0 : gk_F p s m ([.ref (am 0), .int a0, .int a1, .int a2] : List Value).toArray meth c cX9_isHeld 5 (some .boolean) RX9 := ⟨B.exec, B.bytes, hml0, findClass_of_methodNamed B.named, fun w hw => atoms_spec (ws := wsX9_isHeld) B.pre w (List.mem_cons_of_mem _ hw), B.returns, B.notSynchronized⟩
  obtain ⟨hx, hb, hml, hown, hts, hr, hlocks⟩ := id C0
  have hS : va_S (nk_A ad am s.heap.size) s.heap s.heap [] := va_S.rf
  have hl := lv_entry ([.ref (am 0), .int a0, .int a1, .int a2]) (n := 5) (Nat.le_of_ble_eq_true rfl)
  rw [lg_entry_eq]
  generalize (lg_sl ([.ref (am 0), .int a0, .int a1, .int a2]) ++ List.replicate (5 - (lg_sl ([.ref (am 0), .int a0, .int a1, .int a2])).length) Slot.unset).toArray = ls at hl ⊢
  have hl : lv_has ls 5 [(0, .ref (am 0)), (1, .int a0), (2, .int a1), (3, .int a2)] := hl
  show W p l e (rmX9_isHeld (d + 1)) s m _ below meth c s.heap [] 0 0 _ _
  refine lv_iload_n hx hb dX9_isHeld_0 rfl (lv_at hl 1 rfl) ?_
  refine lv_iload_n hx hb dX9_isHeld_1 rfl (lv_at hl 2 rfl) ?_
  refine lv_icmp_ne (tgt := 7) hx hb dX9_isHeld_2 (by decide) (fun c2 => ?_) (fun c2 => ?_)
  · have hw := hw.1 c2
    refine lv_iconst (v := 0) hx hb dX9_isHeld_7 (by decide) ?_
    refine lv_istore (lv' := [(4, .int 0), (0, .ref (am 0)), (1, .int a0), (2, .int a1), (3, .int a2)]) hx hb dX9_isHeld_8 hl (by decide) rfl (fun ls hl => ?_)
    obtain ⟨n10, hw⟩ := hw
    refine tL_X9_isHeld_10 C0 hK hZ hrec  n10 a0 a1 a2 0 hw _ _ hW hS  _ (lv_sub hl [1, 2, 3, 4, 0] rfl)
  · have hw := hw.2 c2
    refine lv_iconst (v := 1) hx hb dX9_isHeld_5 (by decide) ?_
    refine W.widen (k := 0) (n := 0) (Nat.le_of_ble_eq_true rfl) (Nat.le_of_ble_eq_true rfl) ?_
    exact nk_retz C0 (by decide) ⟨rfl, hw⟩ hW hS dX9_isHeld_6
theorem c_X9_isHeld (l : Launch) (D : va_G) (cI cZ cG cL : ClassId) (ad am : Nat → Nat) (q1 q2 q3 b0 L : Nat) (xs : Nat → Int32) : ∀ (d : Nat) {σ : nk_C} {a0 : Int32} {a1 : Int32} {a2 : Int32} {Q : Int32 → Prop} {sz : Nat}, wd_X9_isHeld d σ a0 a1 a2 Q → Met l yX9_isHeld wsX9_isHeld (rmX9_isHeld d) (nk_Pc D cI cZ cG cL ad am q1 q2 q3 b0 L xs [.ref (am 0), .int a0, .int a1, .int a2] sz σ (fun _ => True)) (va_Qi (fun r u => u = σ ∧ Q r) (nk_B D cI cZ cL ad am b0) (nk_A ad am sz)) 0 0 (nk_A ad am sz) := by
  intro d
  induction d with
  | zero => exact fun {σ} {a0} {a1} {a2}  {Q} {sz} hw => False.elim hw
  | succ d ih => exact fun {σ} {a0} {a1} {a2}  {Q} {sz} hw => cs_X9_isHeld l D cI cZ cG cL ad am q1 q2 q3 b0 L xs (fun σ a0 a1 a2 Q sz  hw => ih  hw)  hw
def wL_X9_hasApart_12 (σ : nk_C) (z0 : Nat) (Q : Int32 → Prop) (k62 : Int32 → Prop) : Nat → Int32 → Int32 → Prop
  | 0 => fun _ _ => False
  | n + 1 => fun x2 x3 => (((x2 ≤ x3) → (k62 x2)) ∧ ((¬ x2 ≤ x3) → (vp_in x2 5 ∧ vp_in x3 5 ∧ (((σ.2.1 (31 + x2.toNatClampNeg) x3.toNatClampNeg) = 0) → (wL_X9_hasApart_12 σ z0 Q k62 n x2 (x3 + 1))) ∧ ((¬ (σ.2.1 (31 + x2.toNatClampNeg) x3.toNatClampNeg) = 0) → (wd_X9_near 6 σ z0 x2 6 (fun r33 => ((99 ≤ r33) → (wL_X9_hasApart_12 σ z0 Q k62 n x2 (x3 + 1))) ∧ ((¬ 99 ≤ r33) → (wd_X9_near 6 σ z0 x3 6 (fun r46 => ((99 ≤ r46) → (wL_X9_hasApart_12 σ z0 Q k62 n x2 (x3 + 1))) ∧ ((¬ 99 ≤ r46) → (Q 1)))))))))))
def wL_X9_hasApart_2 (σ : nk_C) (z0 : Nat) (Q : Int32 → Prop) : Nat → Int32 → Prop
  | 0 => fun _ => False
  | n + 1 => fun x2 => ((((σ.2.2 9) ≤ x2) → (Q 0)) ∧ ((¬ (σ.2.2 9) ≤ x2) → (∃ n12, wL_X9_hasApart_12 σ z0 Q (fun x2 => (wL_X9_hasApart_2 σ z0 Q n (x2 + 1))) n12 x2 0)))
def w_X9_hasApart (σ : nk_C) (z0 : Nat) (Q : Int32 → Prop) : Prop := (∃ n2, wL_X9_hasApart_2 σ z0 Q n2 0)
abbrev rmX9_hasApart : Room := { frames := 8, cells := 0, slots := 0, locals := 305 }
set_option maxHeartbeats 4000000 in
set_option maxRecDepth 100000 in
theorem tL_X9_hasApart_12 {p : Program} {l : Launch} {e : Env} {s : State} {m : MethodId} {args : Array Value} {below : List Frame} {meth : Method} {c : Code} {D : va_G} {cI cZ cG cL : ClassId} {ad am : Nat → Nat} {q1 q2 q3 b0 L : Nat} {xs : Nat → Int32} (C0 : gk_F p s m args meth c cX9_hasApart 4 (some .boolean) RX9) (hK : gk_K D cI cZ cG cL s) (hZ : nk_Z q1 q2 q3 b0 L xs (nk_A ad am s.heap.size) s s.heap) {z0 : Nat} (hz0 : 22 ≤ z0 ∧ z0 < 36) {σ : nk_C} {Q : Int32 → Prop} {k62 : Int32 → Prop} (hk62 : ∀ (x2 : Int32), k62 x2 → ∀ (H : Heap) (locs : List Loc), nk_W D cI cZ cL ad am b0 σ H → va_S (nk_A ad am s.heap.size) s.heap H locs → ∀ (ls : Array Slot), lv_has ls 4 [(0, .ref (am 0)), (1, .ref (am z0)), (2, .int x2)] → W p l e rmX9_hasApart s m args below meth c H locs 0 0 (MQ below (va_Qi (fun r u => u = σ ∧ Q r) (nk_B D cI cZ cL ad am b0) (nk_A ad am s.heap.size)) args s 0 0 (nk_A ad am s.heap.size)) (F0 m 62 ls [])) : ∀ (n : Nat) (x2 : Int32) (x3 : Int32), wL_X9_hasApart_12 σ z0 Q k62 n x2 x3 → ∀ (H : Heap) (locs : List Loc), nk_W D cI cZ cL ad am b0 σ H → va_S (nk_A ad am s.heap.size) s.heap H locs → ∀ (ls : Array Slot), lv_has ls 4 [(0, .ref (am 0)), (1, .ref (am z0)), (2, .int x2), (3, .int x3)] → W p l e rmX9_hasApart s m args below meth c H locs 0 0 (MQ below (va_Qi (fun r u => u = σ ∧ Q r) (nk_B D cI cZ cL ad am b0) (nk_A ad am s.heap.size)) args s 0 0 (nk_A ad am s.heap.size)) (F0 m 12 ls []) := by
  obtain ⟨hx, hb, hml, hown, hts, hr, hlocks⟩ := id C0
  intro n
  induction n with
  | zero => exact fun _ _ hw => False.elim hw
  | succ n ih =>
    intro x2 x3 hw H locs hW hS  ls hl
    refine lv_iload_n hx hb dX9_hasApart_12 rfl (lv_at hl 3 rfl) ?_
    refine lv_iload_n hx hb dX9_hasApart_13 rfl (lv_at hl 2 rfl) ?_
    refine lv_icmp_ge (tgt := 62) hx hb dX9_hasApart_14 (by decide) (fun c14 => ?_) (fun c14 => ?_)
    · have hw := hw.1 c14
      exact hk62 x2 hw _ _ hW hS  _ (lv_sub hl [0, 1, 2] rfl)
    · have hw := hw.2 c14
      refine lv_aload_n hx hb dX9_hasApart_17 rfl (lv_at hl 0 rfl) ?_
      refine gk_get hx hb hts iwX9 hown hK.1 (nk_obj hW) rfl 11 (by decide) (hts _ fl_X9_31) (fun _ h9 => h9) rfl dX9_hasApart_18 ?_
      refine lv_iload_n hx hb dX9_hasApart_21 rfl (lv_at hl 2 rfl) ?_
      obtain ⟨hin, hw⟩ := hw
      refine nk_aalz hx hb hK (nk_o11 hW) hin (by decide) dX9_hasApart_22 (fun hz22 => ?_)
      refine lv_iload_n hx hb dX9_hasApart_23 rfl (lv_at hl 3 rfl) ?_
      obtain ⟨hin, hw⟩ := hw
      refine gk_zald hx hb hK.1 1 (nk_zr hW hz22) rfl hin dX9_hasApart_24 ?_
      refine lv_if_eq (tgt := 56) hx hb dX9_hasApart_25 (by decide) (fun c25 => ?_) (fun c25 => ?_)
      · have hw := hw.1 c25
        refine lv_iinc (v := (x3 + 1)) (lv' := [(3, .int (x3 + 1)), (0, .ref (am 0)), (1, .ref (am z0)), (2, .int x2)]) hx hb dX9_hasApart_56 hl (k := 3) rfl rfl (by decide) rfl (fun ls hl => ?_)
        refine lv_goto (tgt := 12) hx hb dX9_hasApart_59 (by decide) ?_
        exact ih x2 (x3 + 1) hw _ _ hW hS  _ (lv_sub hl [1, 2, 3, 0] rfl)
      · have hw := hw.2 c25
        refine lv_aload_n hx hb dX9_hasApart_28 rfl (lv_at hl 0 rfl) ?_
        refine lv_aload_n hx hb dX9_hasApart_29 rfl (lv_at hl 1 rfl) ?_
        refine lv_iload_n hx hb dX9_hasApart_30 rfl (lv_at hl 2 rfl) ?_
        refine lv_bipush (v := 6) hx hb dX9_hasApart_31 (by decide) ?_
        refine nk_callRi ⟨hx, hb, hml, hown, hts⟩ (c_X9_near l D cI cZ cG cL ad am q1 q2 q3 b0 L xs 6 hz0 hw) (cwV 3 hts (gk_gV ml_X9_107 im_X9_near se_X9_near in_X9 co_X9_near) rfl rfl rfl (by decide +kernel) ⟨Nat.le_of_ble_eq_true rfl, Nat.le_of_ble_eq_true rfl⟩) (gk_recv hK.1 (nk_obj hW) rfl) hW hK hZ trivial hS (nk_A.up hS.1) rfl hl.1 (rest := []) rfl (lv_room (Nat.le_of_ble_eq_true rfl)) dX9_hasApart_33 ⟨Nat.le_of_ble_eq_true rfl, Nat.le_of_ble_eq_true rfl⟩ (fun r33 H locs hw hW _ hk hS => ?_)
        refine lv_bipush (v := 99) hx hb dX9_hasApart_36 (by decide) ?_
        refine lv_icmp_ge (tgt := 56) hx hb dX9_hasApart_38 (by decide) (fun c38 => ?_) (fun c38 => ?_)
        · have hw := hw.1 c38
          refine lv_iinc (v := (x3 + 1)) (lv' := [(3, .int (x3 + 1)), (0, .ref (am 0)), (1, .ref (am z0)), (2, .int x2)]) hx hb dX9_hasApart_56 hl (k := 3) rfl rfl (by decide) rfl (fun ls hl => ?_)
          refine lv_goto (tgt := 12) hx hb dX9_hasApart_59 (by decide) ?_
          exact ih x2 (x3 + 1) hw _ _ hW hS  _ (lv_sub hl [1, 2, 3, 0] rfl)
        · have hw := hw.2 c38
          refine lv_aload_n hx hb dX9_hasApart_41 rfl (lv_at hl 0 rfl) ?_
          refine lv_aload_n hx hb dX9_hasApart_42 rfl (lv_at hl 1 rfl) ?_
          refine lv_iload_n hx hb dX9_hasApart_43 rfl (lv_at hl 3 rfl) ?_
          refine lv_bipush (v := 6) hx hb dX9_hasApart_44 (by decide) ?_
          refine nk_callRi ⟨hx, hb, hml, hown, hts⟩ (c_X9_near l D cI cZ cG cL ad am q1 q2 q3 b0 L xs 6 hz0 hw) (cwV 3 hts (gk_gV ml_X9_107 im_X9_near se_X9_near in_X9 co_X9_near) rfl rfl rfl (by decide +kernel) ⟨Nat.le_of_ble_eq_true rfl, Nat.le_of_ble_eq_true rfl⟩) (gk_recv hK.1 (nk_obj hW) rfl) hW hK hZ trivial hS (nk_A.up hS.1) rfl hl.1 (rest := []) rfl (lv_room (Nat.le_of_ble_eq_true rfl)) dX9_hasApart_46 ⟨Nat.le_of_ble_eq_true rfl, Nat.le_of_ble_eq_true rfl⟩ (fun r46 H locs hw hW _ hk hS => ?_)
          refine lv_bipush (v := 99) hx hb dX9_hasApart_49 (by decide) ?_
          refine lv_icmp_ge (tgt := 56) hx hb dX9_hasApart_51 (by decide) (fun c51 => ?_) (fun c51 => ?_)
          · have hw := hw.1 c51
            refine lv_iinc (v := (x3 + 1)) (lv' := [(3, .int (x3 + 1)), (0, .ref (am 0)), (1, .ref (am z0)), (2, .int x2)]) hx hb dX9_hasApart_56 hl (k := 3) rfl rfl (by decide) rfl (fun ls hl => ?_)
            refine lv_goto (tgt := 12) hx hb dX9_hasApart_59 (by decide) ?_
            exact ih x2 (x3 + 1) hw _ _ hW hS  _ (lv_sub hl [1, 2, 3, 0] rfl)
          · have hw := hw.2 c51
            refine lv_iconst (v := 1) hx hb dX9_hasApart_54 (by decide) ?_
            refine W.widen (k := 0) (n := 0) (Nat.le_of_ble_eq_true rfl) (Nat.le_of_ble_eq_true rfl) ?_
            exact nk_retz C0 (by decide) ⟨rfl, hw⟩ hW hS dX9_hasApart_55
set_option maxHeartbeats 4000000 in
set_option maxRecDepth 100000 in
theorem tL_X9_hasApart_2 {p : Program} {l : Launch} {e : Env} {s : State} {m : MethodId} {args : Array Value} {below : List Frame} {meth : Method} {c : Code} {D : va_G} {cI cZ cG cL : ClassId} {ad am : Nat → Nat} {q1 q2 q3 b0 L : Nat} {xs : Nat → Int32} (C0 : gk_F p s m args meth c cX9_hasApart 4 (some .boolean) RX9) (hK : gk_K D cI cZ cG cL s) (hZ : nk_Z q1 q2 q3 b0 L xs (nk_A ad am s.heap.size) s s.heap) {z0 : Nat} (hz0 : 22 ≤ z0 ∧ z0 < 36) {σ : nk_C} {Q : Int32 → Prop} : ∀ (n : Nat) (x2 : Int32), wL_X9_hasApart_2 σ z0 Q n x2 → ∀ (H : Heap) (locs : List Loc), nk_W D cI cZ cL ad am b0 σ H → va_S (nk_A ad am s.heap.size) s.heap H locs → ∀ (ls : Array Slot), lv_has ls 4 [(0, .ref (am 0)), (1, .ref (am z0)), (2, .int x2)] → W p l e rmX9_hasApart s m args below meth c H locs 0 0 (MQ below (va_Qi (fun r u => u = σ ∧ Q r) (nk_B D cI cZ cL ad am b0) (nk_A ad am s.heap.size)) args s 0 0 (nk_A ad am s.heap.size)) (F0 m 2 ls []) := by
  obtain ⟨hx, hb, hml, hown, hts, hr, hlocks⟩ := id C0
  intro n
  induction n with
  | zero => exact fun _ hw => False.elim hw
  | succ n ih =>
    intro x2 hw H locs hW hS  ls hl
    refine lv_iload_n hx hb dX9_hasApart_2 rfl (lv_at hl 2 rfl) ?_
    refine lv_aload_n hx hb dX9_hasApart_3 rfl (lv_at hl 0 rfl) ?_
    refine gk_get hx hb hts iwX9 hown hK.1 (nk_obj hW) rfl 9 (by decide) (hts _ fl_X9_92) (fun _ h9 => h9) rfl dX9_hasApart_4 ?_
    refine lv_icmp_ge (tgt := 68) hx hb dX9_hasApart_7 (by decide) (fun c7 => ?_) (fun c7 => ?_)
    · have hw := hw.1 c7
      refine lv_iconst (v := 0) hx hb dX9_hasApart_68 (by decide) ?_
      refine W.widen (k := 0) (n := 0) (Nat.le_of_ble_eq_true rfl) (Nat.le_of_ble_eq_true rfl) ?_
      exact nk_retz C0 (by decide) ⟨rfl, hw⟩ hW hS dX9_hasApart_69
    · have hw := hw.2 c7
      refine lv_iconst (v := 0) hx hb dX9_hasApart_10 (by decide) ?_
      refine lv_istore_n (lv' := [(3, .int 0), (0, .ref (am 0)), (1, .ref (am z0)), (2, .int x2)]) hx hb dX9_hasApart_11 rfl hl (by decide) rfl (fun ls hl => ?_)
      obtain ⟨n12, hw⟩ := hw
      refine tL_X9_hasApart_12 C0 hK hZ hz0 (hk62 := ?_) n12 x2 0 hw _ _ hW hS  _ (lv_sub hl [1, 2, 3, 0] rfl)
      · intro x2 hw H locs hW hS  ls hl
        refine lv_iinc (v := (x2 + 1)) (lv' := [(2, .int (x2 + 1)), (0, .ref (am 0)), (1, .ref (am z0))]) hx hb dX9_hasApart_62 hl (k := 2) rfl rfl (by decide) rfl (fun ls hl => ?_)
        refine lv_goto (tgt := 2) hx hb dX9_hasApart_65 (by decide) ?_
        exact ih (x2 + 1) hw _ _ hW hS  _ (lv_sub hl [1, 2, 0] rfl)
set_option maxHeartbeats 4000000 in
set_option maxRecDepth 100000 in
theorem c_X9_hasApart (l : Launch) (D : va_G) (cI cZ cG cL : ClassId) (ad am : Nat → Nat) (q1 q2 q3 b0 L : Nat) (xs : Nat → Int32) {σ : nk_C} {z0 : Nat} (hz0 : 22 ≤ z0 ∧ z0 < 36) {Q : Int32 → Prop} {sz : Nat} (hw : w_X9_hasApart σ z0 Q) : Met l yX9_hasApart wsX9_hasApart rmX9_hasApart (nk_Pc D cI cZ cG cL ad am q1 q2 q3 b0 L xs [.ref (am 0), .ref (am z0)] sz σ (fun _ => True)) (va_Qi (fun r u => u = σ ∧ Q r) (nk_B D cI cZ cL ad am b0) (nk_A ad am sz)) 0 0 (nk_A ad am sz) := by
  refine Met.ofW (cc := cX9_hasApart) (maxL := 4) (ret := (some .boolean)) (by decide) rfl ?_
  intro p e s m args below meth c s₁ B hml0 hv0
  obtain ⟨rfl, hsz, hW, hK, hZ, hX⟩ := hv0
  subst hsz
  have C0 : gk_F p s m ([.ref (am 0), .ref (am z0)] : List Value).toArray meth c cX9_hasApart 4 (some .boolean) RX9 := ⟨B.exec, B.bytes, hml0, findClass_of_methodNamed B.named, fun w hw => atoms_spec (ws := wsX9_hasApart) B.pre w (List.mem_cons_of_mem _ hw), B.returns, B.notSynchronized⟩
  obtain ⟨hx, hb, hml, hown, hts, hr, hlocks⟩ := id C0
  have hS : va_S (nk_A ad am s.heap.size) s.heap s.heap [] := va_S.rf
  have hl := lv_entry ([.ref (am 0), .ref (am z0)]) (n := 4) (Nat.le_of_ble_eq_true rfl)
  rw [lg_entry_eq]
  generalize (lg_sl ([.ref (am 0), .ref (am z0)]) ++ List.replicate (4 - (lg_sl ([.ref (am 0), .ref (am z0)])).length) Slot.unset).toArray = ls at hl ⊢
  have hl : lv_has ls 4 [(0, .ref (am 0)), (1, .ref (am z0))] := hl
  show W p l e rmX9_hasApart s m _ below meth c s.heap [] 0 0 _ _
  refine lv_iconst (v := 0) hx hb dX9_hasApart_0 (by decide) ?_
  refine lv_istore_n (lv' := [(2, .int 0), (0, .ref (am 0)), (1, .ref (am z0))]) hx hb dX9_hasApart_1 rfl hl (by decide) rfl (fun ls hl => ?_)
  obtain ⟨n2, hw⟩ := hw
  refine tL_X9_hasApart_2 C0 hK hZ hz0  n2 0 hw _ _ hW hS  _ (lv_sub hl [1, 2, 0] rfl)
def wL_X9_anyApart_2 (σ : nk_C) (Q : Int32 → Prop) : Nat → Int32 → Prop
  | 0 => fun _ => False
  | n + 1 => fun x1 => ((((σ.2.2 5) ≤ x1) → (Q 0)) ∧ ((¬ (σ.2.2 5) ≤ x1) → (vp_in x1 4 ∧ w_X9_hasApart σ (22 + x1.toNatClampNeg) (fun r17 => ((r17 = 0) → (wL_X9_anyApart_2 σ Q n (x1 + 1))) ∧ ((¬ r17 = 0) → (Q 1))))))
def w_X9_anyApart (σ : nk_C)  (Q : Int32 → Prop) : Prop := (∃ n2, wL_X9_anyApart_2 σ Q n2 0)
abbrev rmX9_anyApart : Room := { frames := 9, cells := 0, slots := 0, locals := 328 }
set_option maxHeartbeats 4000000 in
set_option maxRecDepth 100000 in
theorem tL_X9_anyApart_2 {p : Program} {l : Launch} {e : Env} {s : State} {m : MethodId} {args : Array Value} {below : List Frame} {meth : Method} {c : Code} {D : va_G} {cI cZ cG cL : ClassId} {ad am : Nat → Nat} {q1 q2 q3 b0 L : Nat} {xs : Nat → Int32} (C0 : gk_F p s m args meth c cX9_anyApart 2 (some .boolean) RX9) (hK : gk_K D cI cZ cG cL s) (hZ : nk_Z q1 q2 q3 b0 L xs (nk_A ad am s.heap.size) s s.heap) {σ : nk_C} {Q : Int32 → Prop} : ∀ (n : Nat) (x1 : Int32), wL_X9_anyApart_2 σ Q n x1 → ∀ (H : Heap) (locs : List Loc), nk_W D cI cZ cL ad am b0 σ H → va_S (nk_A ad am s.heap.size) s.heap H locs → ∀ (ls : Array Slot), lv_has ls 2 [(0, .ref (am 0)), (1, .int x1)] → W p l e rmX9_anyApart s m args below meth c H locs 0 0 (MQ below (va_Qi (fun r u => u = σ ∧ Q r) (nk_B D cI cZ cL ad am b0) (nk_A ad am s.heap.size)) args s 0 0 (nk_A ad am s.heap.size)) (F0 m 2 ls []) := by
  obtain ⟨hx, hb, hml, hown, hts, hr, hlocks⟩ := id C0
  intro n
  induction n with
  | zero => exact fun _ hw => False.elim hw
  | succ n ih =>
    intro x1 hw H locs hW hS  ls hl
    refine lv_iload_n hx hb dX9_anyApart_2 rfl (lv_at hl 1 rfl) ?_
    refine lv_aload_n hx hb dX9_anyApart_3 rfl (lv_at hl 0 rfl) ?_
    refine gk_get hx hb hts iwX9 hown hK.1 (nk_obj hW) rfl 5 (by decide) (hts _ fl_X9_82) (fun _ h9 => h9) rfl dX9_anyApart_4 ?_
    refine lv_icmp_ge (tgt := 31) hx hb dX9_anyApart_7 (by decide) (fun c7 => ?_) (fun c7 => ?_)
    · have hw := hw.1 c7
      refine lv_iconst (v := 0) hx hb dX9_anyApart_31 (by decide) ?_
      refine W.widen (k := 0) (n := 0) (Nat.le_of_ble_eq_true rfl) (Nat.le_of_ble_eq_true rfl) ?_
      exact nk_retz C0 (by decide) ⟨rfl, hw⟩ hW hS dX9_anyApart_32
    · have hw := hw.2 c7
      refine lv_aload_n hx hb dX9_anyApart_10 rfl (lv_at hl 0 rfl) ?_
      refine lv_aload_n hx hb dX9_anyApart_11 rfl (lv_at hl 0 rfl) ?_
      refine gk_get hx hb hts iwX9 hown hK.1 (nk_obj hW) rfl 6 (by decide) (hts _ fl_X9_18) (fun _ h9 => h9) rfl dX9_anyApart_12 ?_
      refine lv_iload_n hx hb dX9_anyApart_15 rfl (lv_at hl 1 rfl) ?_
      obtain ⟨hin, hw⟩ := hw
      refine nk_aalz hx hb hK (nk_o6 hW) hin (by decide) dX9_anyApart_16 (fun hz16 => ?_)
      refine nk_callRi ⟨hx, hb, hml, hown, hts⟩ (c_X9_hasApart l D cI cZ cG cL ad am q1 q2 q3 b0 L xs hz16 hw) (cwV 1 hts (gk_gV ml_X9_120 im_X9_hasApart se_X9_hasApart in_X9 co_X9_hasApart) rfl rfl rfl (by decide +kernel) ⟨Nat.le_of_ble_eq_true rfl, Nat.le_of_ble_eq_true rfl⟩) (gk_recv hK.1 (nk_obj hW) rfl) hW hK hZ trivial hS (nk_A.up hS.1) rfl hl.1 (rest := []) rfl (lv_room (Nat.le_of_ble_eq_true rfl)) dX9_anyApart_17 ⟨Nat.le_of_ble_eq_true rfl, Nat.le_of_ble_eq_true rfl⟩ (fun r17 H locs hw hW _ hk hS => ?_)
      refine lv_if_eq (tgt := 25) hx hb dX9_anyApart_20 (by decide) (fun c20 => ?_) (fun c20 => ?_)
      · have hw := hw.1 c20
        refine lv_iinc (v := (x1 + 1)) (lv' := [(1, .int (x1 + 1)), (0, .ref (am 0))]) hx hb dX9_anyApart_25 hl (k := 1) rfl rfl (by decide) rfl (fun ls hl => ?_)
        refine lv_goto (tgt := 2) hx hb dX9_anyApart_28 (by decide) ?_
        exact ih (x1 + 1) hw _ _ hW hS  _ (lv_sub hl [1, 0] rfl)
      · have hw := hw.2 c20
        refine lv_iconst (v := 1) hx hb dX9_anyApart_23 (by decide) ?_
        refine W.widen (k := 0) (n := 0) (Nat.le_of_ble_eq_true rfl) (Nat.le_of_ble_eq_true rfl) ?_
        exact nk_retz C0 (by decide) ⟨rfl, hw⟩ hW hS dX9_anyApart_24
set_option maxHeartbeats 4000000 in
set_option maxRecDepth 100000 in
theorem c_X9_anyApart (l : Launch) (D : va_G) (cI cZ cG cL : ClassId) (ad am : Nat → Nat) (q1 q2 q3 b0 L : Nat) (xs : Nat → Int32) {σ : nk_C} {Q : Int32 → Prop} {sz : Nat} (hw : w_X9_anyApart σ  Q) : Met l yX9_anyApart wsX9_anyApart rmX9_anyApart (nk_Pc D cI cZ cG cL ad am q1 q2 q3 b0 L xs [.ref (am 0)] sz σ (fun _ => True)) (va_Qi (fun r u => u = σ ∧ Q r) (nk_B D cI cZ cL ad am b0) (nk_A ad am sz)) 0 0 (nk_A ad am sz) := by
  refine Met.ofW (cc := cX9_anyApart) (maxL := 2) (ret := (some .boolean)) (by decide) rfl ?_
  intro p e s m args below meth c s₁ B hml0 hv0
  obtain ⟨rfl, hsz, hW, hK, hZ, hX⟩ := hv0
  subst hsz
  have C0 : gk_F p s m ([.ref (am 0)] : List Value).toArray meth c cX9_anyApart 2 (some .boolean) RX9 := ⟨B.exec, B.bytes, hml0, findClass_of_methodNamed B.named, fun w hw => atoms_spec (ws := wsX9_anyApart) B.pre w (List.mem_cons_of_mem _ hw), B.returns, B.notSynchronized⟩
  obtain ⟨hx, hb, hml, hown, hts, hr, hlocks⟩ := id C0
  have hS : va_S (nk_A ad am s.heap.size) s.heap s.heap [] := va_S.rf
  have hl := lv_entry ([.ref (am 0)]) (n := 2) (Nat.le_of_ble_eq_true rfl)
  rw [lg_entry_eq]
  generalize (lg_sl ([.ref (am 0)]) ++ List.replicate (2 - (lg_sl ([.ref (am 0)])).length) Slot.unset).toArray = ls at hl ⊢
  have hl : lv_has ls 2 [(0, .ref (am 0))] := hl
  show W p l e rmX9_anyApart s m _ below meth c s.heap [] 0 0 _ _
  refine lv_iconst (v := 0) hx hb dX9_anyApart_0 (by decide) ?_
  refine lv_istore_n (lv' := [(1, .int 0), (0, .ref (am 0))]) hx hb dX9_anyApart_1 rfl hl (by decide) rfl (fun ls hl => ?_)
  obtain ⟨n2, hw⟩ := hw
  refine tL_X9_anyApart_2 C0 hK hZ  n2 0 hw _ _ hW hS  _ (lv_sub hl [1, 0] rfl)
def wJ_X9_make_37 (Q : Int32 → nk_C → Prop) (k8 : nk_C → Int32 → Prop) (σ : nk_C) (x1 : Int32) (t1 : Int32) (t2 : Int32) : Prop := (vp_in t1 4 ∧ ∀ σ37 : nk_C, σ37 = nk_st σ 7 t1 t2 → w_X9_draw σ37 8 (fun r49 σ49 => vp_in (σ37.2.2 5) 4 ∧ ∀ σ52 : nk_C, σ52 = nk_st σ49 8 (σ37.2.2 5) r49 → vp_in (σ52.2.2 5) 4 ∧ vp_in (σ52.2.2 5) 4 ∧ w_X8_addUser σ52.1 (σ52.2.1 7 (σ52.2.2 5).toNatClampNeg) (σ52.2.1 8 (σ52.2.2 5).toNatClampNeg) (fun r75 s75 => ((r75 = ((s75, σ52.2).2.2 5)) → (k8 (nk_s (s75, σ52.2) 5 (((s75, σ52.2).2.2 5) + 1)) (x1 + (-1)))) ∧ ((¬ r75 = ((s75, σ52.2).2.2 5)) → (Q 0 (nk_s (s75, σ52.2) 5 (((s75, σ52.2).2.2 5) + 1)))))))
def wL_X9_make_8 (Q : Int32 → nk_C → Prop) (k100 : nk_C → Prop) : Nat → nk_C → Int32 → Prop
  | 0 => fun _ _ => False
  | n + 1 => fun σ x1 => (((x1 ≤ 0) → (k100 σ)) ∧ ((¬ x1 ≤ 0) → (w_X9_draw σ 3 (fun r22 σ22 => ((¬ r22 = 0) → (wJ_X9_make_37 Q (fun σ x1 => wL_X9_make_8 Q k100 n σ x1) σ22 x1 (σ.2.2 5) 1)) ∧ ((r22 = 0) → (w_X9_draw σ22 4 (fun r30 σ30 => wJ_X9_make_37 Q (fun σ x1 => wL_X9_make_8 Q k100 n σ x1) σ30 x1 (σ.2.2 5) r30)))))))
def wL_X9_make_108 (Q : Int32 → nk_C → Prop) (k141 : nk_C → Prop) : Nat → nk_C → Int32 → Prop
  | 0 => fun _ _ => False
  | n + 1 => fun σ x1 => (((x1 ≤ 0) → (k141 σ)) ∧ ((¬ x1 ≤ 0) → (w_X8_addRole σ.1 (fun r116 s116 => ((r116 = ((s116, σ.2).2.2 9)) → (wL_X9_make_108 Q k141 n (nk_s (s116, σ.2) 9 (((s116, σ.2).2.2 9) + 1)) (x1 + (-1)))) ∧ ((¬ r116 = ((s116, σ.2).2.2 9)) → (Q 0 (nk_s (s116, σ.2) 9 (((s116, σ.2).2.2 9) + 1))))))))
def wJ_X9_make_231 (Q : Int32 → nk_C → Prop) (k149 : nk_C → Int32 → Prop) (σ : nk_C) (x1 : Int32) (x2 : Int32) (t1 : Int32) (t2 : Int32) : Prop := (vp_in t1 6 ∧ ∀ σ231 : nk_C, σ231 = nk_st σ 14 t1 t2 → vp_in x2 6 ∧ w_X8_setLabel σ231.1 x2 (σ231.2.1 14 x2.toNatClampNeg) (fun r243 s243 => ((r243 = 0) → (k149 (s243, σ231.2) (x1 + (-1)))) ∧ ((¬ r243 = 0) → (Q 0 (s243, σ231.2)))))
def wL_X9_make_149 (Q : Int32 → nk_C → Prop) (k257 : nk_C → Prop) : Nat → nk_C → Int32 → Prop
  | 0 => fun _ _ => False
  | n + 1 => fun σ x1 => (((x1 ≤ 0) → (k257 σ)) ∧ ((¬ x1 ≤ 0) → (w_X9_draw σ (σ.2.2 12) (fun r166 σ166 => vp_in (σ.2.2 12) 6 ∧ ∀ σ169 : nk_C, σ169 = nk_st σ166 13 (σ.2.2 12) r166 → vp_in (σ169.2.2 12) 6 ∧ w_X8_addResource σ169.1 (σ169.2.1 13 (σ169.2.2 12).toNatClampNeg) (fun r183 s183 => ((r183 = ((s183, σ169.2).2.2 12)) → (w_X9_draw (nk_s (s183, σ169.2) 12 (((s183, σ169.2).2.2 12) + 1)) 3 (fun r216 σ216 => ((¬ r216 = 0) → (wJ_X9_make_231 Q (fun σ x1 => wL_X9_make_149 Q k257 n σ x1) σ216 x1 (((nk_s (s183, σ169.2) 12 (((s183, σ169.2).2.2 12) + 1)).2.2 12) - 1) (((nk_s (s183, σ169.2) 12 (((s183, σ169.2).2.2 12) + 1)).2.2 12) - 1) 1)) ∧ ((r216 = 0) → (w_X9_draw σ216 4 (fun r224 σ224 => wJ_X9_make_231 Q (fun σ x1 => wL_X9_make_149 Q k257 n σ x1) σ224 x1 (((nk_s (s183, σ169.2) 12 (((s183, σ169.2).2.2 12) + 1)).2.2 12) - 1) (((nk_s (s183, σ169.2) 12 (((s183, σ169.2).2.2 12) + 1)).2.2 12) - 1) r224)))))) ∧ ((¬ r183 = ((s183, σ169.2).2.2 12)) → (Q 0 (nk_s (s183, σ169.2) 12 (((s183, σ169.2).2.2 12) + 1)))))))))
def w_X9_make (σ : nk_C)  (Q : Int32 → nk_C → Prop) : Prop := (w_X9_draw σ 3 (fun r3 σ3 => ∃ n8, wL_X9_make_8 Q (fun σ => (w_X9_draw σ 4 (fun r103 σ103 => ∃ n108, wL_X9_make_108 Q (fun σ => (w_X9_draw σ 4 (fun r144 σ144 => ∃ n149, wL_X9_make_149 Q (fun σ => (vp_in 0 6 ∧ ∀ σ263 : nk_C, σ263 = nk_st σ 14 0 1 → w_X8_setLabel σ263.1 0 1 (fun r270 s270 => ((¬ r270 = 0) → (Q 0 (s270, σ263.2))) ∧ ((r270 = 0) → (w_X8_users (s270, σ263.2).1 (fun r280 => ((¬ r280 = ((s270, σ263.2).2.2 5)) → (Q 0 (s270, σ263.2))) ∧ ((r280 = ((s270, σ263.2).2.2 5)) → (w_X8_roles (s270, σ263.2).1 (fun r294 => ((¬ r294 = ((s270, σ263.2).2.2 9)) → (Q 0 (s270, σ263.2))) ∧ ((r294 = ((s270, σ263.2).2.2 9)) → (w_X8_resources (s270, σ263.2).1 (fun r308 => ((¬ r308 = ((s270, σ263.2).2.2 12)) → (Q 0 (s270, σ263.2))) ∧ ((r308 = ((s270, σ263.2).2.2 12)) → (Q 1 (s270, σ263.2))))))))))))))) n149 σ144 (2 + r144)))) n108 σ103 (2 + r103)))) n8 σ3 (2 + r3)))
abbrev rmX9_make : Room := { frames := 3, cells := 0, slots := 0, locals := 67 }
set_option maxHeartbeats 4000000 in
set_option maxRecDepth 100000 in
theorem tJ_X9_make_37 {p : Program} {l : Launch} {e : Env} {s : State} {m : MethodId} {args : Array Value} {below : List Frame} {meth : Method} {c : Code} {D : va_G} {cI cZ cG cL : ClassId} {ad am : Nat → Nat} {q1 q2 q3 b0 L : Nat} {xs : Nat → Int32} (C0 : gk_F p s m args meth c cX9_make 3 (some .boolean) RX9) (hK : gk_K D cI cZ cG cL s) (hZ : nk_Z q1 q2 q3 b0 L xs (nk_A ad am s.heap.size) s s.heap) {Q : Int32 → nk_C → Prop} {k8 : nk_C → Int32 → Prop} (hk8 : ∀ (σ : nk_C) (x1 : Int32), k8 σ x1 → ∀ (H : Heap) (locs : List Loc), nk_W D cI cZ cL ad am b0 σ H → va_S (nk_A ad am s.heap.size) s.heap H locs → ∀ (ls : Array Slot), lv_has ls 3 [(0, .ref (am 0)), (1, .int x1)] → W p l e rmX9_make s m args below meth c H locs 0 0 (MQ below (va_Qi (fun r u => Q r u) (nk_B D cI cZ cL ad am b0) (nk_A ad am s.heap.size)) args s 0 0 (nk_A ad am s.heap.size)) (F0 m 8 ls [])) : ∀ (σ : nk_C) (x1 : Int32) (t1 : Int32) (t2 : Int32), wJ_X9_make_37 Q k8 σ x1 t1 t2 → ∀ (H : Heap) (locs : List Loc), nk_W D cI cZ cL ad am b0 σ H → va_S (nk_A ad am s.heap.size) s.heap H locs → ∀ (ls : Array Slot), lv_has ls 3 [(0, .ref (am 0)), (1, .int x1)] → W p l e rmX9_make s m args below meth c H locs 0 0 (MQ below (va_Qi (fun r u => Q r u) (nk_B D cI cZ cL ad am b0) (nk_A ad am s.heap.size)) args s 0 0 (nk_A ad am s.heap.size)) (F0 m 37 ls [.int t2, .int t1, .ref (am 7)]) := by
  obtain ⟨hx, hb, hml, hown, hts, hr, hlocks⟩ := id C0
  intro σ x1 t1 t2 hw H locs hW hS  ls hl
  obtain ⟨hin, hw⟩ := hw
  refine gk_iast hx hb hK.1 hS (nk_A.in (by decide)) 0 (nk_arr hW (k := 7) (by decide)) rfl hin dX9_make_37 (fun H locs h1 _ oq hS => ?_)
  have hW := hW.setR (k := 7) (by decide) h1 oq
  obtain ⟨σ37, eσ37⟩ : ∃ z, z = nk_st σ 7 t1 t2 := ⟨_, rfl⟩
  have hW := nk_stW eσ37 hW
  have hw := hw σ37 eσ37
  refine lv_aload_n hx hb dX9_make_38 rfl (lv_at hl 0 rfl) ?_
  refine gk_get hx hb hts iwX9 hown hK.1 (nk_obj hW) rfl 8 (by decide) (hts _ fl_X9_25) (fun _ h9 => h9) rfl dX9_make_39 ?_
  refine lv_aload_n hx hb dX9_make_42 rfl (lv_at hl 0 rfl) ?_
  refine gk_get hx hb hts iwX9 hown hK.1 (nk_obj hW) rfl 5 (by decide) (hts _ fl_X9_82) (fun _ h9 => h9) rfl dX9_make_43 ?_
  refine lv_aload_n hx hb dX9_make_46 rfl (lv_at hl 0 rfl) ?_
  refine lv_bipush (v := 8) hx hb dX9_make_47 (by decide) ?_
  refine nk_callVi ⟨hx, hb, hml, hown, hts⟩ (c_X9_draw l D cI cZ cG cL ad am q1 q2 q3 b0 L xs hw) (cwV 1 hts (gk_gV ml_X9_78 im_X9_draw se_X9_draw in_X9 co_X9_draw) rfl rfl rfl (by decide +kernel) ⟨Nat.le_of_ble_eq_true rfl, Nat.le_of_ble_eq_true rfl⟩) (gk_recv hK.1 (nk_obj hW) rfl) hW hK hZ trivial hS (nk_A.up hS.1) rfl hl.1 (rest := [.int (σ37.2.2 5), .ref (am 8)]) rfl (lv_room (Nat.le_of_ble_eq_true rfl)) dX9_make_49 ⟨Nat.le_of_ble_eq_true rfl, Nat.le_of_ble_eq_true rfl⟩ (fun r49 σ49 H locs hw hW _ hk hS => ?_)
  obtain ⟨hin, hw⟩ := hw
  refine gk_iast hx hb hK.1 hS (nk_A.in (by decide)) 0 (nk_arr hW (k := 8) (by decide)) rfl hin dX9_make_52 (fun H locs h1 _ oq hS => ?_)
  have hW := hW.setR (k := 8) (by decide) h1 oq
  obtain ⟨σ52, eσ52⟩ : ∃ z, z = nk_st σ49 8 (σ37.2.2 5) r49 := ⟨_, rfl⟩
  have hW := nk_stW eσ52 hW
  have hw := hw σ52 eσ52
  refine lv_aload_n hx hb dX9_make_53 rfl (lv_at hl 0 rfl) ?_
  refine gk_get hx hb hts iwX9 hown hK.1 (nk_obj hW) rfl 0 (by decide) (hts _ fl_X9_10) (fun _ h9 => h9) rfl dX9_make_54 ?_
  refine lv_aload_n hx hb dX9_make_57 rfl (lv_at hl 0 rfl) ?_
  refine gk_get hx hb hts iwX9 hown hK.1 (nk_obj hW) rfl 7 (by decide) (hts _ fl_X9_21) (fun _ h9 => h9) rfl dX9_make_58 ?_
  refine lv_aload_n hx hb dX9_make_61 rfl (lv_at hl 0 rfl) ?_
  refine gk_get hx hb hts iwX9 hown hK.1 (nk_obj hW) rfl 5 (by decide) (hts _ fl_X9_82) (fun _ h9 => h9) rfl dX9_make_62 ?_
  obtain ⟨hin, hw⟩ := hw
  refine gk_iald hx hb hK.1 0 (nk_arr hW (k := 7) (by decide)) rfl hin dX9_make_65 ?_
  refine lv_aload_n hx hb dX9_make_66 rfl (lv_at hl 0 rfl) ?_
  refine gk_get hx hb hts iwX9 hown hK.1 (nk_obj hW) rfl 8 (by decide) (hts _ fl_X9_25) (fun _ h9 => h9) rfl dX9_make_67 ?_
  refine lv_aload_n hx hb dX9_make_70 rfl (lv_at hl 0 rfl) ?_
  refine gk_get hx hb hts iwX9 hown hK.1 (nk_obj hW) rfl 5 (by decide) (hts _ fl_X9_82) (fun _ h9 => h9) rfl dX9_make_71 ?_
  obtain ⟨hin, hw⟩ := hw
  refine gk_iald hx hb hK.1 0 (nk_arr hW (k := 8) (by decide)) rfl hin dX9_make_74 ?_
  refine nk_gVi ⟨hx, hb, hml, hown, hts⟩ (c_X8_addUser l D cI cZ cG cL ad hw) (cwV 2 hts (gk_gV ml_X9_85 im_X8_addUser se_X8_addUser in_X8 co_X8_addUser) rfl rfl rfl (by decide +kernel) ⟨Nat.le_of_ble_eq_true rfl, Nat.le_of_ble_eq_true rfl⟩) (gk_recv hK.1 (gk_o0 hW.1) rfl) hW hK hS (nk_A.up hS.1) rfl hl.1 (rest := []) rfl (lv_room (Nat.le_of_ble_eq_true rfl)) dX9_make_75 ⟨Nat.zero_le _, Nat.zero_le _⟩ (fun r75 s75 H locs hw hW _ hk hS => ?_)
  refine lv_aload_n hx hb dX9_make_78 rfl (lv_at hl 0 rfl) ?_
  refine lv_dup hx hb dX9_make_79 rfl ?_
  refine gk_get hx hb hts iwX9 hown hK.1 (nk_obj hW) rfl 5 (by decide) (hts _ fl_X9_82) (fun _ h9 => h9) rfl dX9_make_80 ?_
  refine lv_dup_x1 hx hb dX9_make_83 rfl rfl ?_
  refine lv_iconst (v := 1) hx hb dX9_make_84 (by decide) ?_
  refine lv_iadd hx hb dX9_make_85 ?_
  refine gk_putf (ty := .int) (v := .int (((s75, σ52.2).2.2 5) + 1)) hx hb hts iwX9 tyX9 tyX9_ok nmX9 hown hK.1 hS (nk_A.in (by decide)) (nk_obj hW) rfl 5 (by decide) (hts _ fl_X9_82) (fun _ h9 => h9) rfl (by decide +kernel) rfl rfl (Nat.le_of_ble_eq_true rfl) dX9_make_86 (fun H locs h1 _ oq hS => ?_)
  have hW := hW.setS (i := 5) (v := (((s75, σ52.2).2.2 5) + 1)) h1 oq
  refine lv_icmp_eq (tgt := 94) hx hb dX9_make_89 (by decide) (fun c89 => ?_) (fun c89 => ?_)
  · have hw := hw.1 c89
    refine lv_iinc (v := (x1 + (-1))) (lv' := [(1, .int (x1 + (-1))), (0, .ref (am 0))]) hx hb dX9_make_94 hl (k := 1) rfl rfl (by decide) rfl (fun ls hl => ?_)
    refine lv_goto (tgt := 8) hx hb dX9_make_97 (by decide) ?_
    exact hk8 (nk_s (s75, σ52.2) 5 (((s75, σ52.2).2.2 5) + 1)) (x1 + (-1)) hw _ _ hW hS  _ (lv_sub hl [1, 0] rfl)
  · have hw := hw.2 c89
    refine lv_iconst (v := 0) hx hb dX9_make_92 (by decide) ?_
    refine W.widen (k := 0) (n := 0) (Nat.le_of_ble_eq_true rfl) (Nat.le_of_ble_eq_true rfl) ?_
    exact nk_retz C0 (by decide) hw hW hS dX9_make_93
set_option maxHeartbeats 4000000 in
set_option maxRecDepth 100000 in
theorem tL_X9_make_8 {p : Program} {l : Launch} {e : Env} {s : State} {m : MethodId} {args : Array Value} {below : List Frame} {meth : Method} {c : Code} {D : va_G} {cI cZ cG cL : ClassId} {ad am : Nat → Nat} {q1 q2 q3 b0 L : Nat} {xs : Nat → Int32} (C0 : gk_F p s m args meth c cX9_make 3 (some .boolean) RX9) (hK : gk_K D cI cZ cG cL s) (hZ : nk_Z q1 q2 q3 b0 L xs (nk_A ad am s.heap.size) s s.heap) {Q : Int32 → nk_C → Prop} {k100 : nk_C → Prop} (hk100 : ∀ (σ : nk_C), k100 σ → ∀ (H : Heap) (locs : List Loc), nk_W D cI cZ cL ad am b0 σ H → va_S (nk_A ad am s.heap.size) s.heap H locs → ∀ (ls : Array Slot), lv_has ls 3 [(0, .ref (am 0))] → W p l e rmX9_make s m args below meth c H locs 0 0 (MQ below (va_Qi (fun r u => Q r u) (nk_B D cI cZ cL ad am b0) (nk_A ad am s.heap.size)) args s 0 0 (nk_A ad am s.heap.size)) (F0 m 100 ls [])) : ∀ (n : Nat) (σ : nk_C) (x1 : Int32), wL_X9_make_8 Q k100 n σ x1 → ∀ (H : Heap) (locs : List Loc), nk_W D cI cZ cL ad am b0 σ H → va_S (nk_A ad am s.heap.size) s.heap H locs → ∀ (ls : Array Slot), lv_has ls 3 [(0, .ref (am 0)), (1, .int x1)] → W p l e rmX9_make s m args below meth c H locs 0 0 (MQ below (va_Qi (fun r u => Q r u) (nk_B D cI cZ cL ad am b0) (nk_A ad am s.heap.size)) args s 0 0 (nk_A ad am s.heap.size)) (F0 m 8 ls []) := by
  obtain ⟨hx, hb, hml, hown, hts, hr, hlocks⟩ := id C0
  intro n
  induction n with
  | zero => exact fun _ _ hw => False.elim hw
  | succ n ih =>
    intro σ x1 hw H locs hW hS  ls hl
    refine lv_iload_n hx hb dX9_make_8 rfl (lv_at hl 1 rfl) ?_
    refine lv_if_le (tgt := 100) hx hb dX9_make_9 (by decide) (fun c9 => ?_) (fun c9 => ?_)
    · have hw := hw.1 c9
      exact hk100 σ hw _ _ hW hS  _ (lv_sub hl [0] rfl)
    · have hw := hw.2 c9
      refine lv_aload_n hx hb dX9_make_12 rfl (lv_at hl 0 rfl) ?_
      refine gk_get hx hb hts iwX9 hown hK.1 (nk_obj hW) rfl 7 (by decide) (hts _ fl_X9_21) (fun _ h9 => h9) rfl dX9_make_13 ?_
      refine lv_aload_n hx hb dX9_make_16 rfl (lv_at hl 0 rfl) ?_
      refine gk_get hx hb hts iwX9 hown hK.1 (nk_obj hW) rfl 5 (by decide) (hts _ fl_X9_82) (fun _ h9 => h9) rfl dX9_make_17 ?_
      refine lv_aload_n hx hb dX9_make_20 rfl (lv_at hl 0 rfl) ?_
      refine lv_iconst (v := 3) hx hb dX9_make_21 (by decide) ?_
      refine nk_callVi ⟨hx, hb, hml, hown, hts⟩ (c_X9_draw l D cI cZ cG cL ad am q1 q2 q3 b0 L xs hw) (cwV 1 hts (gk_gV ml_X9_78 im_X9_draw se_X9_draw in_X9 co_X9_draw) rfl rfl rfl (by decide +kernel) ⟨Nat.le_of_ble_eq_true rfl, Nat.le_of_ble_eq_true rfl⟩) (gk_recv hK.1 (nk_obj hW) rfl) hW hK hZ trivial hS (nk_A.up hS.1) rfl hl.1 (rest := [.int (σ.2.2 5), .ref (am 7)]) rfl (lv_room (Nat.le_of_ble_eq_true rfl)) dX9_make_22 ⟨Nat.le_of_ble_eq_true rfl, Nat.le_of_ble_eq_true rfl⟩ (fun r22 σ22 H locs hw hW _ hk hS => ?_)
      refine lv_if_ne (tgt := 36) hx hb dX9_make_25 (by decide) (fun c25 => ?_) (fun c25 => ?_)
      · have hw := hw.1 c25
        refine lv_iconst (v := 1) hx hb dX9_make_36 (by decide) ?_
        refine tJ_X9_make_37 C0 hK hZ (hk8 := ih) σ22 x1 (σ.2.2 5) 1 hw _ _ hW hS  _ hl
      · have hw := hw.2 c25
        refine lv_aload_n hx hb dX9_make_28 rfl (lv_at hl 0 rfl) ?_
        refine lv_iconst (v := 4) hx hb dX9_make_29 (by decide) ?_
        refine nk_callVi ⟨hx, hb, hml, hown, hts⟩ (c_X9_draw l D cI cZ cG cL ad am q1 q2 q3 b0 L xs hw) (cwV 1 hts (gk_gV ml_X9_78 im_X9_draw se_X9_draw in_X9 co_X9_draw) rfl rfl rfl (by decide +kernel) ⟨Nat.le_of_ble_eq_true rfl, Nat.le_of_ble_eq_true rfl⟩) (gk_recv hK.1 (nk_obj hW) rfl) hW hK hZ trivial hS (nk_A.up hS.1) rfl hl.1 (rest := [.int (σ.2.2 5), .ref (am 7)]) rfl (lv_room (Nat.le_of_ble_eq_true rfl)) dX9_make_30 ⟨Nat.le_of_ble_eq_true rfl, Nat.le_of_ble_eq_true rfl⟩ (fun r30 σ30 H locs hw hW _ hk hS => ?_)
        refine lv_goto (tgt := 37) hx hb dX9_make_33 (by decide) ?_
        refine tJ_X9_make_37 C0 hK hZ (hk8 := ih) σ30 x1 (σ.2.2 5) r30 hw _ _ hW hS  _ hl
set_option maxHeartbeats 4000000 in
set_option maxRecDepth 100000 in
theorem tL_X9_make_108 {p : Program} {l : Launch} {e : Env} {s : State} {m : MethodId} {args : Array Value} {below : List Frame} {meth : Method} {c : Code} {D : va_G} {cI cZ cG cL : ClassId} {ad am : Nat → Nat} {q1 q2 q3 b0 L : Nat} {xs : Nat → Int32} (C0 : gk_F p s m args meth c cX9_make 3 (some .boolean) RX9) (hK : gk_K D cI cZ cG cL s) (hZ : nk_Z q1 q2 q3 b0 L xs (nk_A ad am s.heap.size) s s.heap) {Q : Int32 → nk_C → Prop} {k141 : nk_C → Prop} (hk141 : ∀ (σ : nk_C), k141 σ → ∀ (H : Heap) (locs : List Loc), nk_W D cI cZ cL ad am b0 σ H → va_S (nk_A ad am s.heap.size) s.heap H locs → ∀ (ls : Array Slot), lv_has ls 3 [(0, .ref (am 0))] → W p l e rmX9_make s m args below meth c H locs 0 0 (MQ below (va_Qi (fun r u => Q r u) (nk_B D cI cZ cL ad am b0) (nk_A ad am s.heap.size)) args s 0 0 (nk_A ad am s.heap.size)) (F0 m 141 ls [])) : ∀ (n : Nat) (σ : nk_C) (x1 : Int32), wL_X9_make_108 Q k141 n σ x1 → ∀ (H : Heap) (locs : List Loc), nk_W D cI cZ cL ad am b0 σ H → va_S (nk_A ad am s.heap.size) s.heap H locs → ∀ (ls : Array Slot), lv_has ls 3 [(0, .ref (am 0)), (1, .int x1)] → W p l e rmX9_make s m args below meth c H locs 0 0 (MQ below (va_Qi (fun r u => Q r u) (nk_B D cI cZ cL ad am b0) (nk_A ad am s.heap.size)) args s 0 0 (nk_A ad am s.heap.size)) (F0 m 108 ls []) := by
  obtain ⟨hx, hb, hml, hown, hts, hr, hlocks⟩ := id C0
  intro n
  induction n with
  | zero => exact fun _ _ hw => False.elim hw
  | succ n ih =>
    intro σ x1 hw H locs hW hS  ls hl
    refine lv_iload_n hx hb dX9_make_108 rfl (lv_at hl 1 rfl) ?_
    refine lv_if_le (tgt := 141) hx hb dX9_make_109 (by decide) (fun c109 => ?_) (fun c109 => ?_)
    · have hw := hw.1 c109
      exact hk141 σ hw _ _ hW hS  _ (lv_sub hl [0] rfl)
    · have hw := hw.2 c109
      refine lv_aload_n hx hb dX9_make_112 rfl (lv_at hl 0 rfl) ?_
      refine gk_get hx hb hts iwX9 hown hK.1 (nk_obj hW) rfl 0 (by decide) (hts _ fl_X9_10) (fun _ h9 => h9) rfl dX9_make_113 ?_
      refine nk_gVi ⟨hx, hb, hml, hown, hts⟩ (c_X8_addRole l D cI cZ cG cL ad hw) (cwV 0 hts (gk_gV ml_X9_88 im_X8_addRole se_X8_addRole in_X8 co_X8_addRole) rfl rfl rfl (by decide +kernel) ⟨Nat.le_of_ble_eq_true rfl, Nat.le_of_ble_eq_true rfl⟩) (gk_recv hK.1 (gk_o0 hW.1) rfl) hW hK hS (nk_A.up hS.1) rfl hl.1 (rest := []) rfl (lv_room (Nat.le_of_ble_eq_true rfl)) dX9_make_116 ⟨Nat.zero_le _, Nat.zero_le _⟩ (fun r116 s116 H locs hw hW _ hk hS => ?_)
      refine lv_aload_n hx hb dX9_make_119 rfl (lv_at hl 0 rfl) ?_
      refine lv_dup hx hb dX9_make_120 rfl ?_
      refine gk_get hx hb hts iwX9 hown hK.1 (nk_obj hW) rfl 9 (by decide) (hts _ fl_X9_92) (fun _ h9 => h9) rfl dX9_make_121 ?_
      refine lv_dup_x1 hx hb dX9_make_124 rfl rfl ?_
      refine lv_iconst (v := 1) hx hb dX9_make_125 (by decide) ?_
      refine lv_iadd hx hb dX9_make_126 ?_
      refine gk_putf (ty := .int) (v := .int (((s116, σ.2).2.2 9) + 1)) hx hb hts iwX9 tyX9 tyX9_ok nmX9 hown hK.1 hS (nk_A.in (by decide)) (nk_obj hW) rfl 9 (by decide) (hts _ fl_X9_92) (fun _ h9 => h9) rfl (by decide +kernel) rfl rfl (Nat.le_of_ble_eq_true rfl) dX9_make_127 (fun H locs h1 _ oq hS => ?_)
      have hW := hW.setS (i := 9) (v := (((s116, σ.2).2.2 9) + 1)) h1 oq
      refine lv_icmp_eq (tgt := 135) hx hb dX9_make_130 (by decide) (fun c130 => ?_) (fun c130 => ?_)
      · have hw := hw.1 c130
        refine lv_iinc (v := (x1 + (-1))) (lv' := [(1, .int (x1 + (-1))), (0, .ref (am 0))]) hx hb dX9_make_135 hl (k := 1) rfl rfl (by decide) rfl (fun ls hl => ?_)
        refine lv_goto (tgt := 108) hx hb dX9_make_138 (by decide) ?_
        exact ih (nk_s (s116, σ.2) 9 (((s116, σ.2).2.2 9) + 1)) (x1 + (-1)) hw _ _ hW hS  _ (lv_sub hl [1, 0] rfl)
      · have hw := hw.2 c130
        refine lv_iconst (v := 0) hx hb dX9_make_133 (by decide) ?_
        refine W.widen (k := 0) (n := 0) (Nat.le_of_ble_eq_true rfl) (Nat.le_of_ble_eq_true rfl) ?_
        exact nk_retz C0 (by decide) hw hW hS dX9_make_134
set_option maxHeartbeats 4000000 in
set_option maxRecDepth 100000 in
theorem tJ_X9_make_231 {p : Program} {l : Launch} {e : Env} {s : State} {m : MethodId} {args : Array Value} {below : List Frame} {meth : Method} {c : Code} {D : va_G} {cI cZ cG cL : ClassId} {ad am : Nat → Nat} {q1 q2 q3 b0 L : Nat} {xs : Nat → Int32} (C0 : gk_F p s m args meth c cX9_make 3 (some .boolean) RX9) (hK : gk_K D cI cZ cG cL s) (hZ : nk_Z q1 q2 q3 b0 L xs (nk_A ad am s.heap.size) s s.heap) {Q : Int32 → nk_C → Prop} {k149 : nk_C → Int32 → Prop} (hk149 : ∀ (σ : nk_C) (x1 : Int32), k149 σ x1 → ∀ (H : Heap) (locs : List Loc), nk_W D cI cZ cL ad am b0 σ H → va_S (nk_A ad am s.heap.size) s.heap H locs → ∀ (ls : Array Slot), lv_has ls 3 [(0, .ref (am 0)), (1, .int x1)] → W p l e rmX9_make s m args below meth c H locs 0 0 (MQ below (va_Qi (fun r u => Q r u) (nk_B D cI cZ cL ad am b0) (nk_A ad am s.heap.size)) args s 0 0 (nk_A ad am s.heap.size)) (F0 m 149 ls [])) : ∀ (σ : nk_C) (x1 : Int32) (x2 : Int32) (t1 : Int32) (t2 : Int32), wJ_X9_make_231 Q k149 σ x1 x2 t1 t2 → ∀ (H : Heap) (locs : List Loc), nk_W D cI cZ cL ad am b0 σ H → va_S (nk_A ad am s.heap.size) s.heap H locs → ∀ (ls : Array Slot), lv_has ls 3 [(0, .ref (am 0)), (1, .int x1), (2, .int x2)] → W p l e rmX9_make s m args below meth c H locs 0 0 (MQ below (va_Qi (fun r u => Q r u) (nk_B D cI cZ cL ad am b0) (nk_A ad am s.heap.size)) args s 0 0 (nk_A ad am s.heap.size)) (F0 m 231 ls [.int t2, .int t1, .ref (am 14)]) := by
  obtain ⟨hx, hb, hml, hown, hts, hr, hlocks⟩ := id C0
  intro σ x1 x2 t1 t2 hw H locs hW hS  ls hl
  obtain ⟨hin, hw⟩ := hw
  refine gk_iast hx hb hK.1 hS (nk_A.in (by decide)) 0 (nk_arr hW (k := 14) (by decide)) rfl hin dX9_make_231 (fun H locs h1 _ oq hS => ?_)
  have hW := hW.setR (k := 14) (by decide) h1 oq
  obtain ⟨σ231, eσ231⟩ : ∃ z, z = nk_st σ 14 t1 t2 := ⟨_, rfl⟩
  have hW := nk_stW eσ231 hW
  have hw := hw σ231 eσ231
  refine lv_aload_n hx hb dX9_make_232 rfl (lv_at hl 0 rfl) ?_
  refine gk_get hx hb hts iwX9 hown hK.1 (nk_obj hW) rfl 0 (by decide) (hts _ fl_X9_10) (fun _ h9 => h9) rfl dX9_make_233 ?_
  refine lv_iload_n hx hb dX9_make_236 rfl (lv_at hl 2 rfl) ?_
  refine lv_aload_n hx hb dX9_make_237 rfl (lv_at hl 0 rfl) ?_
  refine gk_get hx hb hts iwX9 hown hK.1 (nk_obj hW) rfl 14 (by decide) (hts _ fl_X9_41) (fun _ h9 => h9) rfl dX9_make_238 ?_
  refine lv_iload_n hx hb dX9_make_241 rfl (lv_at hl 2 rfl) ?_
  obtain ⟨hin, hw⟩ := hw
  refine gk_iald hx hb hK.1 0 (nk_arr hW (k := 14) (by decide)) rfl hin dX9_make_242 ?_
  refine nk_gVi ⟨hx, hb, hml, hown, hts⟩ (c_X8_setLabel l D cI cZ cG cL ad hw) (cwV 2 hts (gk_gV ml_X9_98 im_X8_setLabel se_X8_setLabel in_X8 co_X8_setLabel) rfl rfl rfl (by decide +kernel) ⟨Nat.le_of_ble_eq_true rfl, Nat.le_of_ble_eq_true rfl⟩) (gk_recv hK.1 (gk_o0 hW.1) rfl) hW hK hS (nk_A.up hS.1) rfl hl.1 (rest := []) rfl (lv_room (Nat.le_of_ble_eq_true rfl)) dX9_make_243 ⟨Nat.zero_le _, Nat.zero_le _⟩ (fun r243 s243 H locs hw hW _ hk hS => ?_)
  refine lv_if_eq (tgt := 251) hx hb dX9_make_246 (by decide) (fun c246 => ?_) (fun c246 => ?_)
  · have hw := hw.1 c246
    refine lv_iinc (v := (x1 + (-1))) (lv' := [(1, .int (x1 + (-1))), (0, .ref (am 0)), (2, .int x2)]) hx hb dX9_make_251 hl (k := 1) rfl rfl (by decide) rfl (fun ls hl => ?_)
    refine lv_goto (tgt := 149) hx hb dX9_make_254 (by decide) ?_
    exact hk149 (s243, σ231.2) (x1 + (-1)) hw _ _ hW hS  _ (lv_sub hl [1, 0] rfl)
  · have hw := hw.2 c246
    refine lv_iconst (v := 0) hx hb dX9_make_249 (by decide) ?_
    refine W.widen (k := 0) (n := 0) (Nat.le_of_ble_eq_true rfl) (Nat.le_of_ble_eq_true rfl) ?_
    exact nk_retz C0 (by decide) hw hW hS dX9_make_250
set_option maxHeartbeats 4000000 in
set_option maxRecDepth 100000 in
theorem tL_X9_make_149 {p : Program} {l : Launch} {e : Env} {s : State} {m : MethodId} {args : Array Value} {below : List Frame} {meth : Method} {c : Code} {D : va_G} {cI cZ cG cL : ClassId} {ad am : Nat → Nat} {q1 q2 q3 b0 L : Nat} {xs : Nat → Int32} (C0 : gk_F p s m args meth c cX9_make 3 (some .boolean) RX9) (hK : gk_K D cI cZ cG cL s) (hZ : nk_Z q1 q2 q3 b0 L xs (nk_A ad am s.heap.size) s s.heap) {Q : Int32 → nk_C → Prop} {k257 : nk_C → Prop} (hk257 : ∀ (σ : nk_C), k257 σ → ∀ (H : Heap) (locs : List Loc), nk_W D cI cZ cL ad am b0 σ H → va_S (nk_A ad am s.heap.size) s.heap H locs → ∀ (ls : Array Slot), lv_has ls 3 [(0, .ref (am 0))] → W p l e rmX9_make s m args below meth c H locs 0 0 (MQ below (va_Qi (fun r u => Q r u) (nk_B D cI cZ cL ad am b0) (nk_A ad am s.heap.size)) args s 0 0 (nk_A ad am s.heap.size)) (F0 m 257 ls [])) : ∀ (n : Nat) (σ : nk_C) (x1 : Int32), wL_X9_make_149 Q k257 n σ x1 → ∀ (H : Heap) (locs : List Loc), nk_W D cI cZ cL ad am b0 σ H → va_S (nk_A ad am s.heap.size) s.heap H locs → ∀ (ls : Array Slot), lv_has ls 3 [(0, .ref (am 0)), (1, .int x1)] → W p l e rmX9_make s m args below meth c H locs 0 0 (MQ below (va_Qi (fun r u => Q r u) (nk_B D cI cZ cL ad am b0) (nk_A ad am s.heap.size)) args s 0 0 (nk_A ad am s.heap.size)) (F0 m 149 ls []) := by
  obtain ⟨hx, hb, hml, hown, hts, hr, hlocks⟩ := id C0
  intro n
  induction n with
  | zero => exact fun _ _ hw => False.elim hw
  | succ n ih =>
    intro σ x1 hw H locs hW hS  ls hl
    refine lv_iload_n hx hb dX9_make_149 rfl (lv_at hl 1 rfl) ?_
    refine lv_if_le (tgt := 257) hx hb dX9_make_150 (by decide) (fun c150 => ?_) (fun c150 => ?_)
    · have hw := hw.1 c150
      exact hk257 σ hw _ _ hW hS  _ (lv_sub hl [0] rfl)
    · have hw := hw.2 c150
      refine lv_aload_n hx hb dX9_make_153 rfl (lv_at hl 0 rfl) ?_
      refine gk_get hx hb hts iwX9 hown hK.1 (nk_obj hW) rfl 13 (by decide) (hts _ fl_X9_38) (fun _ h9 => h9) rfl dX9_make_154 ?_
      refine lv_aload_n hx hb dX9_make_157 rfl (lv_at hl 0 rfl) ?_
      refine gk_get hx hb hts iwX9 hown hK.1 (nk_obj hW) rfl 12 (by decide) (hts _ fl_X9_34) (fun _ h9 => h9) rfl dX9_make_158 ?_
      refine lv_aload_n hx hb dX9_make_161 rfl (lv_at hl 0 rfl) ?_
      refine lv_aload_n hx hb dX9_make_162 rfl (lv_at hl 0 rfl) ?_
      refine gk_get hx hb hts iwX9 hown hK.1 (nk_obj hW) rfl 12 (by decide) (hts _ fl_X9_34) (fun _ h9 => h9) rfl dX9_make_163 ?_
      refine nk_callVi ⟨hx, hb, hml, hown, hts⟩ (c_X9_draw l D cI cZ cG cL ad am q1 q2 q3 b0 L xs hw) (cwV 1 hts (gk_gV ml_X9_78 im_X9_draw se_X9_draw in_X9 co_X9_draw) rfl rfl rfl (by decide +kernel) ⟨Nat.le_of_ble_eq_true rfl, Nat.le_of_ble_eq_true rfl⟩) (gk_recv hK.1 (nk_obj hW) rfl) hW hK hZ trivial hS (nk_A.up hS.1) rfl hl.1 (rest := [.int (σ.2.2 12), .ref (am 13)]) rfl (lv_room (Nat.le_of_ble_eq_true rfl)) dX9_make_166 ⟨Nat.le_of_ble_eq_true rfl, Nat.le_of_ble_eq_true rfl⟩ (fun r166 σ166 H locs hw hW _ hk hS => ?_)
      obtain ⟨hin, hw⟩ := hw
      refine gk_iast hx hb hK.1 hS (nk_A.in (by decide)) 0 (nk_arr hW (k := 13) (by decide)) rfl hin dX9_make_169 (fun H locs h1 _ oq hS => ?_)
      have hW := hW.setR (k := 13) (by decide) h1 oq
      obtain ⟨σ169, eσ169⟩ : ∃ z, z = nk_st σ166 13 (σ.2.2 12) r166 := ⟨_, rfl⟩
      have hW := nk_stW eσ169 hW
      have hw := hw σ169 eσ169
      refine lv_aload_n hx hb dX9_make_170 rfl (lv_at hl 0 rfl) ?_
      refine gk_get hx hb hts iwX9 hown hK.1 (nk_obj hW) rfl 0 (by decide) (hts _ fl_X9_10) (fun _ h9 => h9) rfl dX9_make_171 ?_
      refine lv_aload_n hx hb dX9_make_174 rfl (lv_at hl 0 rfl) ?_
      refine gk_get hx hb hts iwX9 hown hK.1 (nk_obj hW) rfl 13 (by decide) (hts _ fl_X9_38) (fun _ h9 => h9) rfl dX9_make_175 ?_
      refine lv_aload_n hx hb dX9_make_178 rfl (lv_at hl 0 rfl) ?_
      refine gk_get hx hb hts iwX9 hown hK.1 (nk_obj hW) rfl 12 (by decide) (hts _ fl_X9_34) (fun _ h9 => h9) rfl dX9_make_179 ?_
      obtain ⟨hin, hw⟩ := hw
      refine gk_iald hx hb hK.1 0 (nk_arr hW (k := 13) (by decide)) rfl hin dX9_make_182 ?_
      refine nk_gVi ⟨hx, hb, hml, hown, hts⟩ (c_X8_addResource l D cI cZ cG cL ad hw) (cwV 1 hts (gk_gV ml_X9_95 im_X8_addResource se_X8_addResource in_X8 co_X8_addResource) rfl rfl rfl (by decide +kernel) ⟨Nat.le_of_ble_eq_true rfl, Nat.le_of_ble_eq_true rfl⟩) (gk_recv hK.1 (gk_o0 hW.1) rfl) hW hK hS (nk_A.up hS.1) rfl hl.1 (rest := []) rfl (lv_room (Nat.le_of_ble_eq_true rfl)) dX9_make_183 ⟨Nat.zero_le _, Nat.zero_le _⟩ (fun r183 s183 H locs hw hW _ hk hS => ?_)
      refine lv_aload_n hx hb dX9_make_186 rfl (lv_at hl 0 rfl) ?_
      refine lv_dup hx hb dX9_make_187 rfl ?_
      refine gk_get hx hb hts iwX9 hown hK.1 (nk_obj hW) rfl 12 (by decide) (hts _ fl_X9_34) (fun _ h9 => h9) rfl dX9_make_188 ?_
      refine lv_dup_x1 hx hb dX9_make_191 rfl rfl ?_
      refine lv_iconst (v := 1) hx hb dX9_make_192 (by decide) ?_
      refine lv_iadd hx hb dX9_make_193 ?_
      refine gk_putf (ty := .int) (v := .int (((s183, σ169.2).2.2 12) + 1)) hx hb hts iwX9 tyX9 tyX9_ok nmX9 hown hK.1 hS (nk_A.in (by decide)) (nk_obj hW) rfl 12 (by decide) (hts _ fl_X9_34) (fun _ h9 => h9) rfl (by decide +kernel) rfl rfl (Nat.le_of_ble_eq_true rfl) dX9_make_194 (fun H locs h1 _ oq hS => ?_)
      have hW := hW.setS (i := 12) (v := (((s183, σ169.2).2.2 12) + 1)) h1 oq
      refine lv_icmp_eq (tgt := 202) hx hb dX9_make_197 (by decide) (fun c197 => ?_) (fun c197 => ?_)
      · have hw := hw.1 c197
        refine lv_aload_n hx hb dX9_make_202 rfl (lv_at hl 0 rfl) ?_
        refine gk_get hx hb hts iwX9 hown hK.1 (nk_obj hW) rfl 12 (by decide) (hts _ fl_X9_34) (fun _ h9 => h9) rfl dX9_make_203 ?_
        refine lv_iconst (v := 1) hx hb dX9_make_206 (by decide) ?_
        refine lv_isub hx hb dX9_make_207 ?_
        refine lv_istore_n (lv' := [(2, .int (((nk_s (s183, σ169.2) 12 (((s183, σ169.2).2.2 12) + 1)).2.2 12) - 1)), (0, .ref (am 0)), (1, .int x1)]) hx hb dX9_make_208 rfl hl (by decide) rfl (fun ls hl => ?_)
        refine lv_aload_n hx hb dX9_make_209 rfl (lv_at hl 1 rfl) ?_
        refine gk_get hx hb hts iwX9 hown hK.1 (nk_obj hW) rfl 14 (by decide) (hts _ fl_X9_41) (fun _ h9 => h9) rfl dX9_make_210 ?_
        refine lv_iload_n hx hb dX9_make_213 rfl (lv_at hl 0 rfl) ?_
        refine lv_aload_n hx hb dX9_make_214 rfl (lv_at hl 1 rfl) ?_
        refine lv_iconst (v := 3) hx hb dX9_make_215 (by decide) ?_
        refine nk_callVi ⟨hx, hb, hml, hown, hts⟩ (c_X9_draw l D cI cZ cG cL ad am q1 q2 q3 b0 L xs hw) (cwV 1 hts (gk_gV ml_X9_78 im_X9_draw se_X9_draw in_X9 co_X9_draw) rfl rfl rfl (by decide +kernel) ⟨Nat.le_of_ble_eq_true rfl, Nat.le_of_ble_eq_true rfl⟩) (gk_recv hK.1 (nk_obj hW) rfl) hW hK hZ trivial hS (nk_A.up hS.1) rfl hl.1 (rest := [.int (((nk_s (s183, σ169.2) 12 (((s183, σ169.2).2.2 12) + 1)).2.2 12) - 1), .ref (am 14)]) rfl (lv_room (Nat.le_of_ble_eq_true rfl)) dX9_make_216 ⟨Nat.le_of_ble_eq_true rfl, Nat.le_of_ble_eq_true rfl⟩ (fun r216 σ216 H locs hw hW _ hk hS => ?_)
        refine lv_if_ne (tgt := 230) hx hb dX9_make_219 (by decide) (fun c219 => ?_) (fun c219 => ?_)
        · have hw := hw.1 c219
          refine lv_iconst (v := 1) hx hb dX9_make_230 (by decide) ?_
          refine tJ_X9_make_231 C0 hK hZ (hk149 := ih) σ216 x1 (((nk_s (s183, σ169.2) 12 (((s183, σ169.2).2.2 12) + 1)).2.2 12) - 1) (((nk_s (s183, σ169.2) 12 (((s183, σ169.2).2.2 12) + 1)).2.2 12) - 1) 1 hw _ _ hW hS  _ (lv_sub hl [1, 2, 0] rfl)
        · have hw := hw.2 c219
          refine lv_aload_n hx hb dX9_make_222 rfl (lv_at hl 1 rfl) ?_
          refine lv_iconst (v := 4) hx hb dX9_make_223 (by decide) ?_
          refine nk_callVi ⟨hx, hb, hml, hown, hts⟩ (c_X9_draw l D cI cZ cG cL ad am q1 q2 q3 b0 L xs hw) (cwV 1 hts (gk_gV ml_X9_78 im_X9_draw se_X9_draw in_X9 co_X9_draw) rfl rfl rfl (by decide +kernel) ⟨Nat.le_of_ble_eq_true rfl, Nat.le_of_ble_eq_true rfl⟩) (gk_recv hK.1 (nk_obj hW) rfl) hW hK hZ trivial hS (nk_A.up hS.1) rfl hl.1 (rest := [.int (((nk_s (s183, σ169.2) 12 (((s183, σ169.2).2.2 12) + 1)).2.2 12) - 1), .ref (am 14)]) rfl (lv_room (Nat.le_of_ble_eq_true rfl)) dX9_make_224 ⟨Nat.le_of_ble_eq_true rfl, Nat.le_of_ble_eq_true rfl⟩ (fun r224 σ224 H locs hw hW _ hk hS => ?_)
          refine lv_goto (tgt := 231) hx hb dX9_make_227 (by decide) ?_
          refine tJ_X9_make_231 C0 hK hZ (hk149 := ih) σ224 x1 (((nk_s (s183, σ169.2) 12 (((s183, σ169.2).2.2 12) + 1)).2.2 12) - 1) (((nk_s (s183, σ169.2) 12 (((s183, σ169.2).2.2 12) + 1)).2.2 12) - 1) r224 hw _ _ hW hS  _ (lv_sub hl [1, 2, 0] rfl)
      · have hw := hw.2 c197
        refine lv_iconst (v := 0) hx hb dX9_make_200 (by decide) ?_
        refine W.widen (k := 0) (n := 0) (Nat.le_of_ble_eq_true rfl) (Nat.le_of_ble_eq_true rfl) ?_
        exact nk_retz C0 (by decide) hw hW hS dX9_make_201
set_option maxHeartbeats 4000000 in
set_option maxRecDepth 100000 in
theorem c_X9_make (l : Launch) (D : va_G) (cI cZ cG cL : ClassId) (ad am : Nat → Nat) (q1 q2 q3 b0 L : Nat) (xs : Nat → Int32) {σ : nk_C} {Q : Int32 → nk_C → Prop} {sz : Nat} (hw : w_X9_make σ  Q) : Met l yX9_make wsX9_make rmX9_make (nk_Pc D cI cZ cG cL ad am q1 q2 q3 b0 L xs [.ref (am 0)] sz σ (fun _ => True)) (va_Qi (fun r u => Q r u) (nk_B D cI cZ cL ad am b0) (nk_A ad am sz)) 0 0 (nk_A ad am sz) := by
  refine Met.ofW (cc := cX9_make) (maxL := 3) (ret := (some .boolean)) (by decide) rfl ?_
  intro p e s m args below meth c s₁ B hml0 hv0
  obtain ⟨rfl, hsz, hW, hK, hZ, hX⟩ := hv0
  subst hsz
  have C0 : gk_F p s m ([.ref (am 0)] : List Value).toArray meth c cX9_make 3 (some .boolean) RX9 := ⟨B.exec, B.bytes, hml0, findClass_of_methodNamed B.named, fun w hw => atoms_spec (ws := wsX9_make) B.pre w (List.mem_cons_of_mem _ hw), B.returns, B.notSynchronized⟩
  obtain ⟨hx, hb, hml, hown, hts, hr, hlocks⟩ := id C0
  have hS : va_S (nk_A ad am s.heap.size) s.heap s.heap [] := va_S.rf
  have hl := lv_entry ([.ref (am 0)]) (n := 3) (Nat.le_of_ble_eq_true rfl)
  rw [lg_entry_eq]
  generalize (lg_sl ([.ref (am 0)]) ++ List.replicate (3 - (lg_sl ([.ref (am 0)])).length) Slot.unset).toArray = ls at hl ⊢
  have hl : lv_has ls 3 [(0, .ref (am 0))] := hl
  show W p l e rmX9_make s m _ below meth c s.heap [] 0 0 _ _
  refine lv_iconst (v := 2) hx hb dX9_make_0 (by decide) ?_
  refine lv_aload_n hx hb dX9_make_1 rfl (lv_at hl 0 rfl) ?_
  refine lv_iconst (v := 3) hx hb dX9_make_2 (by decide) ?_
  refine nk_callVi ⟨hx, hb, hml, hown, hts⟩ (c_X9_draw l D cI cZ cG cL ad am q1 q2 q3 b0 L xs hw) (cwV 1 hts (gk_gV ml_X9_78 im_X9_draw se_X9_draw in_X9 co_X9_draw) rfl rfl rfl (by decide +kernel) ⟨Nat.le_of_ble_eq_true rfl, Nat.le_of_ble_eq_true rfl⟩) (gk_recv hK.1 (nk_obj hW) rfl) hW hK hZ trivial hS (nk_A.up hS.1) rfl hl.1 (rest := [.int 2]) rfl (lv_room (Nat.le_of_ble_eq_true rfl)) dX9_make_3 ⟨Nat.le_of_ble_eq_true rfl, Nat.le_of_ble_eq_true rfl⟩ (fun r3 σ3 H locs hw hW _ hk hS => ?_)
  refine lv_iadd hx hb dX9_make_6 ?_
  refine lv_istore_n (lv' := [(1, .int (2 + r3)), (0, .ref (am 0))]) hx hb dX9_make_7 rfl hl (by decide) rfl (fun ls hl => ?_)
  obtain ⟨n8, hw⟩ := hw
  refine tL_X9_make_8 C0 hK hZ (hk100 := ?_) n8 σ3 (2 + r3) hw _ _ hW hS  _ (lv_sub hl [1, 0] rfl)
  · intro σ hw H locs hW hS  ls hl
    refine lv_iconst (v := 2) hx hb dX9_make_100 (by decide) ?_
    refine lv_aload_n hx hb dX9_make_101 rfl (lv_at hl 0 rfl) ?_
    refine lv_iconst (v := 4) hx hb dX9_make_102 (by decide) ?_
    refine nk_callVi ⟨hx, hb, hml, hown, hts⟩ (c_X9_draw l D cI cZ cG cL ad am q1 q2 q3 b0 L xs hw) (cwV 1 hts (gk_gV ml_X9_78 im_X9_draw se_X9_draw in_X9 co_X9_draw) rfl rfl rfl (by decide +kernel) ⟨Nat.le_of_ble_eq_true rfl, Nat.le_of_ble_eq_true rfl⟩) (gk_recv hK.1 (nk_obj hW) rfl) hW hK hZ trivial hS (nk_A.up hS.1) rfl hl.1 (rest := [.int 2]) rfl (lv_room (Nat.le_of_ble_eq_true rfl)) dX9_make_103 ⟨Nat.le_of_ble_eq_true rfl, Nat.le_of_ble_eq_true rfl⟩ (fun r103 σ103 H locs hw hW _ hk hS => ?_)
    refine lv_iadd hx hb dX9_make_106 ?_
    refine lv_istore_n (lv' := [(1, .int (2 + r103)), (0, .ref (am 0))]) hx hb dX9_make_107 rfl hl (by decide) rfl (fun ls hl => ?_)
    obtain ⟨n108, hw⟩ := hw
    refine tL_X9_make_108 C0 hK hZ (hk141 := ?_) n108 σ103 (2 + r103) hw _ _ hW hS  _ (lv_sub hl [1, 0] rfl)
    · intro σ hw H locs hW hS  ls hl
      refine lv_iconst (v := 2) hx hb dX9_make_141 (by decide) ?_
      refine lv_aload_n hx hb dX9_make_142 rfl (lv_at hl 0 rfl) ?_
      refine lv_iconst (v := 4) hx hb dX9_make_143 (by decide) ?_
      refine nk_callVi ⟨hx, hb, hml, hown, hts⟩ (c_X9_draw l D cI cZ cG cL ad am q1 q2 q3 b0 L xs hw) (cwV 1 hts (gk_gV ml_X9_78 im_X9_draw se_X9_draw in_X9 co_X9_draw) rfl rfl rfl (by decide +kernel) ⟨Nat.le_of_ble_eq_true rfl, Nat.le_of_ble_eq_true rfl⟩) (gk_recv hK.1 (nk_obj hW) rfl) hW hK hZ trivial hS (nk_A.up hS.1) rfl hl.1 (rest := [.int 2]) rfl (lv_room (Nat.le_of_ble_eq_true rfl)) dX9_make_144 ⟨Nat.le_of_ble_eq_true rfl, Nat.le_of_ble_eq_true rfl⟩ (fun r144 σ144 H locs hw hW _ hk hS => ?_)
      refine lv_iadd hx hb dX9_make_147 ?_
      refine lv_istore_n (lv' := [(1, .int (2 + r144)), (0, .ref (am 0))]) hx hb dX9_make_148 rfl hl (by decide) rfl (fun ls hl => ?_)
      obtain ⟨n149, hw⟩ := hw
      refine tL_X9_make_149 C0 hK hZ (hk257 := ?_) n149 σ144 (2 + r144) hw _ _ hW hS  _ (lv_sub hl [1, 0] rfl)
      · intro σ hw H locs hW hS  ls hl
        refine lv_aload_n hx hb dX9_make_257 rfl (lv_at hl 0 rfl) ?_
        refine gk_get hx hb hts iwX9 hown hK.1 (nk_obj hW) rfl 14 (by decide) (hts _ fl_X9_41) (fun _ h9 => h9) rfl dX9_make_258 ?_
        refine lv_iconst (v := 0) hx hb dX9_make_261 (by decide) ?_
        refine lv_iconst (v := 1) hx hb dX9_make_262 (by decide) ?_
        obtain ⟨hin, hw⟩ := hw
        refine gk_iast hx hb hK.1 hS (nk_A.in (by decide)) 0 (nk_arr hW (k := 14) (by decide)) rfl hin dX9_make_263 (fun H locs h1 _ oq hS => ?_)
        have hW := hW.setR (k := 14) (by decide) h1 oq
        obtain ⟨σ263, eσ263⟩ : ∃ z, z = nk_st σ 14 0 1 := ⟨_, rfl⟩
        have hW := nk_stW eσ263 hW
        have hw := hw σ263 eσ263
        refine lv_aload_n hx hb dX9_make_264 rfl (lv_at hl 0 rfl) ?_
        refine gk_get hx hb hts iwX9 hown hK.1 (nk_obj hW) rfl 0 (by decide) (hts _ fl_X9_10) (fun _ h9 => h9) rfl dX9_make_265 ?_
        refine lv_iconst (v := 0) hx hb dX9_make_268 (by decide) ?_
        refine lv_iconst (v := 1) hx hb dX9_make_269 (by decide) ?_
        refine nk_gVi ⟨hx, hb, hml, hown, hts⟩ (c_X8_setLabel l D cI cZ cG cL ad hw) (cwV 2 hts (gk_gV ml_X9_98 im_X8_setLabel se_X8_setLabel in_X8 co_X8_setLabel) rfl rfl rfl (by decide +kernel) ⟨Nat.le_of_ble_eq_true rfl, Nat.le_of_ble_eq_true rfl⟩) (gk_recv hK.1 (gk_o0 hW.1) rfl) hW hK hS (nk_A.up hS.1) rfl hl.1 (rest := []) rfl (lv_room (Nat.le_of_ble_eq_true rfl)) dX9_make_270 ⟨Nat.zero_le _, Nat.zero_le _⟩ (fun r270 s270 H locs hw hW _ hk hS => ?_)
        refine lv_if_ne (tgt := 322) hx hb dX9_make_273 (by decide) (fun c273 => ?_) (fun c273 => ?_)
        · have hw := hw.1 c273
          refine lv_iconst (v := 0) hx hb dX9_make_322 (by decide) ?_
          refine W.widen (k := 0) (n := 0) (Nat.le_of_ble_eq_true rfl) (Nat.le_of_ble_eq_true rfl) ?_
          exact nk_retz C0 (by decide) hw hW hS dX9_make_323
        · have hw := hw.2 c273
          refine lv_aload_n hx hb dX9_make_276 rfl (lv_at hl 0 rfl) ?_
          refine gk_get hx hb hts iwX9 hown hK.1 (nk_obj hW) rfl 0 (by decide) (hts _ fl_X9_10) (fun _ h9 => h9) rfl dX9_make_277 ?_
          refine nk_gRi ⟨hx, hb, hml, hown, hts⟩ (c_X8_users l D cI cZ cG cL ad hw) (cwV 0 hts (gk_gV ml_X9_101 im_X8_users se_X8_users in_X8 co_X8_users) rfl rfl rfl (by decide +kernel) ⟨Nat.le_of_ble_eq_true rfl, Nat.le_of_ble_eq_true rfl⟩) (gk_recv hK.1 (gk_o0 hW.1) rfl) hW hK hS (nk_A.up hS.1) rfl hl.1 (rest := []) rfl (lv_room (Nat.le_of_ble_eq_true rfl)) dX9_make_280 ⟨Nat.zero_le _, Nat.zero_le _⟩ (fun r280 H locs hw hW _ hk hS => ?_)
          refine lv_aload_n hx hb dX9_make_283 rfl (lv_at hl 0 rfl) ?_
          refine gk_get hx hb hts iwX9 hown hK.1 (nk_obj hW) rfl 5 (by decide) (hts _ fl_X9_82) (fun _ h9 => h9) rfl dX9_make_284 ?_
          refine lv_icmp_ne (tgt := 322) hx hb dX9_make_287 (by decide) (fun c287 => ?_) (fun c287 => ?_)
          · have hw := hw.1 c287
            refine lv_iconst (v := 0) hx hb dX9_make_322 (by decide) ?_
            refine W.widen (k := 0) (n := 0) (Nat.le_of_ble_eq_true rfl) (Nat.le_of_ble_eq_true rfl) ?_
            exact nk_retz C0 (by decide) hw hW hS dX9_make_323
          · have hw := hw.2 c287
            refine lv_aload_n hx hb dX9_make_290 rfl (lv_at hl 0 rfl) ?_
            refine gk_get hx hb hts iwX9 hown hK.1 (nk_obj hW) rfl 0 (by decide) (hts _ fl_X9_10) (fun _ h9 => h9) rfl dX9_make_291 ?_
            refine nk_gRi ⟨hx, hb, hml, hown, hts⟩ (c_X8_roles l D cI cZ cG cL ad hw) (cwV 0 hts (gk_gV ml_X9_103 im_X8_roles se_X8_roles in_X8 co_X8_roles) rfl rfl rfl (by decide +kernel) ⟨Nat.le_of_ble_eq_true rfl, Nat.le_of_ble_eq_true rfl⟩) (gk_recv hK.1 (gk_o0 hW.1) rfl) hW hK hS (nk_A.up hS.1) rfl hl.1 (rest := []) rfl (lv_room (Nat.le_of_ble_eq_true rfl)) dX9_make_294 ⟨Nat.zero_le _, Nat.zero_le _⟩ (fun r294 H locs hw hW _ hk hS => ?_)
            refine lv_aload_n hx hb dX9_make_297 rfl (lv_at hl 0 rfl) ?_
            refine gk_get hx hb hts iwX9 hown hK.1 (nk_obj hW) rfl 9 (by decide) (hts _ fl_X9_92) (fun _ h9 => h9) rfl dX9_make_298 ?_
            refine lv_icmp_ne (tgt := 322) hx hb dX9_make_301 (by decide) (fun c301 => ?_) (fun c301 => ?_)
            · have hw := hw.1 c301
              refine lv_iconst (v := 0) hx hb dX9_make_322 (by decide) ?_
              refine W.widen (k := 0) (n := 0) (Nat.le_of_ble_eq_true rfl) (Nat.le_of_ble_eq_true rfl) ?_
              exact nk_retz C0 (by decide) hw hW hS dX9_make_323
            · have hw := hw.2 c301
              refine lv_aload_n hx hb dX9_make_304 rfl (lv_at hl 0 rfl) ?_
              refine gk_get hx hb hts iwX9 hown hK.1 (nk_obj hW) rfl 0 (by decide) (hts _ fl_X9_10) (fun _ h9 => h9) rfl dX9_make_305 ?_
              refine nk_gRi ⟨hx, hb, hml, hown, hts⟩ (c_X8_resources l D cI cZ cG cL ad hw) (cwV 0 hts (gk_gV ml_X9_105 im_X8_resources se_X8_resources in_X8 co_X8_resources) rfl rfl rfl (by decide +kernel) ⟨Nat.le_of_ble_eq_true rfl, Nat.le_of_ble_eq_true rfl⟩) (gk_recv hK.1 (gk_o0 hW.1) rfl) hW hK hS (nk_A.up hS.1) rfl hl.1 (rest := []) rfl (lv_room (Nat.le_of_ble_eq_true rfl)) dX9_make_308 ⟨Nat.zero_le _, Nat.zero_le _⟩ (fun r308 H locs hw hW _ hk hS => ?_)
              refine lv_aload_n hx hb dX9_make_311 rfl (lv_at hl 0 rfl) ?_
              refine gk_get hx hb hts iwX9 hown hK.1 (nk_obj hW) rfl 12 (by decide) (hts _ fl_X9_34) (fun _ h9 => h9) rfl dX9_make_312 ?_
              refine lv_icmp_ne (tgt := 322) hx hb dX9_make_315 (by decide) (fun c315 => ?_) (fun c315 => ?_)
              · have hw := hw.1 c315
                refine lv_iconst (v := 0) hx hb dX9_make_322 (by decide) ?_
                refine W.widen (k := 0) (n := 0) (Nat.le_of_ble_eq_true rfl) (Nat.le_of_ble_eq_true rfl) ?_
                exact nk_retz C0 (by decide) hw hW hS dX9_make_323
              · have hw := hw.2 c315
                refine lv_iconst (v := 1) hx hb dX9_make_318 (by decide) ?_
                refine lv_goto (tgt := 323) hx hb dX9_make_319 (by decide) ?_
                refine W.widen (k := 0) (n := 0) (Nat.le_of_ble_eq_true rfl) (Nat.le_of_ble_eq_true rfl) ?_
                exact nk_retz C0 (by decide) hw hW hS dX9_make_323
