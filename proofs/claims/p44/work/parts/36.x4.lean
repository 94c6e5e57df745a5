/-! laid by wip/p44/classx.py: wp predicates and walks -/
def wL_L_table_16 (Q : Nat → (Nat → Int32) → nk_C → Prop) : Nat → nk_C → Int32 → (Nat → Int32) → Nat → Prop
  | 0 => fun _ _ _ _ => False
  | n + 1 => fun σ x2 fn11 nn11 => ((((nI nn11) ≤ x2) → (Q nn11 fn11 σ)) ∧ ((¬ (nI nn11) ≤ x2) → ((¬ (σ.2.2 5) = 0) ∧ (¬ (σ.2.2 5) = 0) ∧ (¬ (σ.2.2 5) = 0) ∧ w_X8_decide σ.1 (x2 - x2 / (σ.2.2 5) * (σ.2.2 5)) ((x2 / (σ.2.2 5)) - (x2 / (σ.2.2 5)) / 5 * 5) ((x2 / (σ.2.2 5)) / 5) (fun r50 s50 => vp_in x2 nn11 ∧ wL_L_table_16 Q n (s50, σ.2) (x2 + 1) (upd fn11 (Int32.toNatClampNeg x2) r50) nn11))))
def w_L_table (σ : nk_C)  (Q : Nat → (Nat → Int32) → nk_C → Prop) : Prop := (((¬ (((σ.2.2 5) * 5) * (σ.2.2 12)) < 0) ∧ (((σ.2.2 5) * 5) * (σ.2.2 12)).toNatClampNeg ≤ 120) ∧ ∃ n16, wL_L_table_16 Q n16 σ 0 (fun _ => 0) ((((σ.2.2 5) * 5) * (σ.2.2 12)).toNatClampNeg))
abbrev rmL_table : Room := { frames := 7, cells := 1, slots := 120, locals := 165 }
set_option maxHeartbeats 4000000 in
set_option maxRecDepth 100000 in
theorem tL_L_table_16 {p : Program} {l : Launch} {e : Env} {s : State} {m : MethodId} {args : Array Value} {below : List Frame} {meth : Method} {c : Code} {D : va_G} {cI cZ cG cL : ClassId} {ad am : Nat → Nat} {q1 q2 q3 b0 L : Nat} {xs : Nat → Int32} (C0 : gk_F p s m args meth c cL_table 3 (some (.array .int)) RL) (hK : gk_K D cI cZ cG cL s) (hZ : nk_Z q1 q2 q3 b0 L xs (nk_A ad am s.heap.size) s s.heap) {Q : Nat → (Nat → Int32) → nk_C → Prop} : ∀ (n : Nat) (σ : nk_C) (x2 : Int32) (fn11 : Nat → Int32) (nn11 : Nat), wL_L_table_16 Q n σ x2 fn11 nn11 → ∀ (H : Heap) (locs : List Loc), nk_W D cI cZ cL ad am b0 σ H → va_S (nk_A ad am s.heap.size) s.heap H locs → ∀ (qn11 : Nat), s.heap.size ≤ qn11 → nk_D D cI ad am qn11 nn11 fn11 H → ∀ (ls : Array Slot), lv_has ls 3 [(0, .ref (am 0)), (1, .ref qn11), (2, .int x2)] → W p l e rmL_table s m args below meth c H locs 1 120 (MQ below (va_Qr (fun (u : nk_C × Nat × (Nat → Int32)) => Q u.2.1 u.2.2 u.1) (fun u a t => nk_W D cI cZ cL ad am b0 u.1 t.heap ∧ nk_D D cI ad am a u.2.1 u.2.2 t.heap ∧ s.heap.size ≤ a) (nk_A ad am s.heap.size)) args s 1 120 (nk_A ad am s.heap.size)) (F0 m 16 ls []) := by
  obtain ⟨hx, hb, hml, hown, hts, hr, hlocks⟩ := id C0
  intro n
  induction n with
  | zero => exact fun _ _ _ _ hw => False.elim hw
  | succ n ih =>
    intro σ x2 fn11 nn11 hw H locs hW hS qn11 hgn11 hdn11 ls hl
    refine lv_iload_n hx hb dL_table_16 rfl (lv_at hl 2 rfl) ?_
    refine lv_aload_n hx hb dL_table_17 rfl (lv_at hl 1 rfl) ?_
    refine gk_alen hx hb hK.1 0 hdn11.1 rfl (v := (nI nn11)) rfl dL_table_18 ?_
    refine lv_icmp_ge (tgt := 60) hx hb dL_table_19 (by decide) (fun c19 => ?_) (fun c19 => ?_)
    · have hw := hw.1 c19
      refine lv_aload_n hx hb dL_table_60 rfl (lv_at hl 1 rfl) ?_
      refine W.widen (k := 1) (n := 120) (Nat.le_of_ble_eq_true rfl) (Nat.le_of_ble_eq_true rfl) ?_
      exact nk_reta (σ, nn11, fn11) C0 (Or.inr ⟨_, rfl⟩) hw (fun t ht => by subst ht; exact ⟨hW, hdn11, hgn11⟩) hS dL_table_61
    · have hw := hw.2 c19
      refine lv_aload_n hx hb dL_table_22 rfl (lv_at hl 1 rfl) ?_
      refine lv_iload_n hx hb dL_table_23 rfl (lv_at hl 2 rfl) ?_
      refine lv_aload_n hx hb dL_table_24 rfl (lv_at hl 0 rfl) ?_
      refine gk_get hx hb hts iwX9 hown hK.1 (nk_obj hW) rfl 0 (by decide) (hts _ fl_L_14) (fun _ h9 => h9) rfl dL_table_25 ?_
      refine lv_iload_n hx hb dL_table_28 rfl (lv_at hl 2 rfl) ?_
      refine lv_aload_n hx hb dL_table_29 rfl (lv_at hl 0 rfl) ?_
      refine gk_get hx hb hts iwX9 hown hK.1 (nk_obj hW) rfl 5 (by decide) (hts _ fl_L_31) (fun _ h9 => h9) rfl dL_table_30 ?_
      obtain ⟨hne, hw⟩ := hw
      refine lv_irem hx hb dL_table_33 hne ?_
      refine lv_iload_n hx hb dL_table_34 rfl (lv_at hl 2 rfl) ?_
      refine lv_aload_n hx hb dL_table_35 rfl (lv_at hl 0 rfl) ?_
      refine gk_get hx hb hts iwX9 hown hK.1 (nk_obj hW) rfl 5 (by decide) (hts _ fl_L_31) (fun _ h9 => h9) rfl dL_table_36 ?_
      obtain ⟨hne, hw⟩ := hw
      refine lv_idiv hx hb dL_table_39 hne ?_
      refine lv_iconst (v := 5) hx hb dL_table_40 (by decide) ?_
      refine lv_irem hx hb dL_table_41 (by decide) ?_
      refine lv_iload_n hx hb dL_table_42 rfl (lv_at hl 2 rfl) ?_
      refine lv_aload_n hx hb dL_table_43 rfl (lv_at hl 0 rfl) ?_
      refine gk_get hx hb hts iwX9 hown hK.1 (nk_obj hW) rfl 5 (by decide) (hts _ fl_L_31) (fun _ h9 => h9) rfl dL_table_44 ?_
      obtain ⟨hne, hw⟩ := hw
      refine lv_idiv hx hb dL_table_47 hne ?_
      refine lv_iconst (v := 5) hx hb dL_table_48 (by decide) ?_
      refine lv_idiv hx hb dL_table_49 (by decide) ?_
      refine nk_gVi ⟨hx, hb, hml, hown, hts⟩ (c_X8_decide l D cI cZ cG cL ad hw) (cwV 3 hts (gk_gV ml_L_54 im_X8_decide se_X8_decide in_X8 co_X8_decide) rfl rfl rfl (by decide +kernel) ⟨Nat.le_of_ble_eq_true rfl, Nat.le_of_ble_eq_true rfl⟩) (gk_recv hK.1 (gk_o0 hW.1) rfl) hW hK hS (nk_A.up hS.1) rfl hl.1 (rest := [.int x2, .ref qn11]) rfl (lv_room (Nat.le_of_ble_eq_true rfl)) dL_table_50 ⟨Nat.le_of_ble_eq_true rfl, Nat.le_of_ble_eq_true rfl⟩ (fun r50 s50 H locs hw hW _ hk hS => ?_)
      have hdn11 := hdn11.gate hk
      obtain ⟨hin, hw⟩ := hw
      refine gk_iast hx hb hK.1 hS (Or.inr (Or.inr hgn11)) 0 hdn11.1 rfl hin dL_table_53 (fun H locs h1 _ oq hS => ?_)
      have hW := hW.keptN hdn11.2.1 hdn11.2.2 oq
      have hdn11 : nk_D D cI ad am qn11 nn11 (upd fn11 (Int32.toNatClampNeg x2) r50) H := ⟨h1, hdn11.2⟩
      refine lv_iinc (v := (x2 + 1)) (lv' := [(2, .int (x2 + 1)), (0, .ref (am 0)), (1, .ref qn11)]) hx hb dL_table_54 hl (k := 2) rfl rfl (by decide) rfl (fun ls hl => ?_)
      refine lv_goto (tgt := 16) hx hb dL_table_57 (by decide) ?_
      exact ih (s50, σ.2) (x2 + 1) (upd fn11 (Int32.toNatClampNeg x2) r50) nn11 hw _ _ hW hS _ hgn11 hdn11 _ (lv_sub hl [1, 2, 0] rfl)
set_option maxHeartbeats 4000000 in
set_option maxRecDepth 100000 in
theorem c_L_table (l : Launch) (D : va_G) (cI cZ cG cL : ClassId) (ad am : Nat → Nat) (q1 q2 q3 b0 L : Nat) (xs : Nat → Int32) {σ : nk_C} {Q : Nat → (Nat → Int32) → nk_C → Prop} {sz : Nat} (hw : w_L_table σ  Q) : Met l yL_table wsL_table rmL_table (nk_Pc D cI cZ cG cL ad am q1 q2 q3 b0 L xs [.ref (am 0)] sz σ (fun _ => True)) (va_Qr (fun (u : nk_C × Nat × (Nat → Int32)) => Q u.2.1 u.2.2 u.1) (fun u a t => nk_W D cI cZ cL ad am b0 u.1 t.heap ∧ nk_D D cI ad am a u.2.1 u.2.2 t.heap ∧ sz ≤ a) (nk_A ad am sz)) 1 120 (nk_A ad am sz) := by
  refine Met.ofW (cc := cL_table) (maxL := 3) (ret := (some (.array .int))) (by decide) rfl ?_
  intro p e s m args below meth c s₁ B hml0 hv0
  obtain ⟨rfl, hsz, hW, hK, hZ, hX⟩ := hv0
  subst hsz
  have C0 : gk_F p s m ([.ref (am 0)] : List Value).toArray meth c cL_table 3 (some (.array .int)) RL := ⟨B.exec, B.bytes, hml0, findClass_of_methodNamed B.named, fun w hw => atoms_spec (ws := wsL_table) B.pre w (List.mem_cons_of_mem _ hw), B.returns, B.notSynchronized⟩
  obtain ⟨hx, hb, hml, hown, hts, hr, hlocks⟩ := id C0
  have hS : va_S (nk_A ad am s.heap.size) s.heap s.heap [] := va_S.rf
  have hl := lv_entry ([.ref (am 0)]) (n := 3) (Nat.le_of_ble_eq_true rfl)
  rw [lg_entry_eq]
  generalize (lg_sl ([.ref (am 0)]) ++ List.replicate (3 - (lg_sl ([.ref (am 0)])).length) Slot.unset).toArray = ls at hl ⊢
  have hl : lv_has ls 3 [(0, .ref (am 0))] := hl
  show W p l e rmL_table s m _ below meth c s.heap [] 0 0 _ _
  refine lv_aload_n hx hb dL_table_0 rfl (lv_at hl 0 rfl) ?_
  refine gk_get hx hb hts iwX9 hown hK.1 (nk_obj hW) rfl 5 (by decide) (hts _ fl_L_31) (fun _ h9 => h9) rfl dL_table_1 ?_
  refine lv_iconst (v := 5) hx hb dL_table_4 (by decide) ?_
  refine lv_imul hx hb dL_table_5 ?_
  refine lv_aload_n hx hb dL_table_6 rfl (lv_at hl 0 rfl) ?_
  refine gk_get hx hb hts iwX9 hown hK.1 (nk_obj hW) rfl 12 (by decide) (hts _ fl_L_39) (fun _ h9 => h9) rfl dL_table_7 ?_
  refine lv_imul hx hb dL_table_10 ?_
  obtain ⟨⟨hn0, hn1⟩, hw⟩ := hw
  refine nk_newi (N' := (((σ.2.2 5) * 5) * (σ.2.2 12)).toNatClampNeg) hx hb (hts _ ac_int) hK hW hS hn0 rfl (by omega) ⟨Nat.le_of_ble_eq_true rfl, by show 0 + _ ≤ 120; omega⟩ dL_table_11 (fun qn11 H hdn11 hqn11 hgn11 hk hS => ?_)
  have hW := hW.keptAll hk
  refine W.widen (k := 1) (n := 120) (by omega) (by omega) ?_
  refine lv_astore_n (lv' := [(1, .ref qn11), (0, .ref (am 0))]) hx hb dL_table_13 rfl hl (by decide) rfl (fun ls hl => ?_)
  refine lv_iconst (v := 0) hx hb dL_table_14 (by decide) ?_
  refine lv_istore_n (lv' := [(2, .int 0), (1, .ref qn11), (0, .ref (am 0))]) hx hb dL_table_15 rfl hl (by decide) rfl (fun ls hl => ?_)
  obtain ⟨n16, hw⟩ := hw
  refine tL_L_table_16 C0 hK hZ  n16 σ 0 (fun _ => 0) ((((σ.2.2 5) * 5) * (σ.2.2 12)).toNatClampNeg) hw _ _ hW hS _ hgn11 hdn11 _ (lv_sub hl [2, 1, 0] rfl)
def wL_L_isByOne_6 (Q : Int32 → nk_C → Prop) : Nat → nk_C → Int32 → Int32 → Int32 → Int32 → Int32 → Prop
  | 0 => fun _ _ _ _ _ _ => False
  | n + 1 => fun σ x1 x2 x3 x4 x5 => ((((σ.2.2 9) ≤ x5) → (gk_z x4 ∧ Q x4 σ)) ∧ ((¬ (σ.2.2 9) ≤ x5) → (vp_in x1 4 ∧ vp_in x5 5 ∧ (((σ.2.1 (22 + x1.toNatClampNeg) x5.toNatClampNeg) = 0) → (w_X8_setRole σ.1 x1 x5 1 (fun E s38 => (E = gk_E3 ∧ (w_X8_near (s38, σ.2).1 x1 x5 (fun r100 => ((¬ r100 = 1) → (wL_L_isByOne_6 Q n (s38, σ.2) x1 x2 x3 x4 (x5 + 1))) ∧ ((r100 = 1) → (Q 0 (s38, σ.2))))))) (fun r38 s38 => (w_X8_decide (s38, σ.2).1 x1 x2 x3 (fun r49 s49 => ((r49 = 1) → (w_X8_setRole (s49, (s38, σ.2).2).1 x1 x5 0 (fun E s84 => (E = gk_E3 ∧ (w_X8_near (s84, (s49, (s38, σ.2).2).2).1 x1 x5 (fun r100 => ((¬ r100 = 1) → (wL_L_isByOne_6 Q n (s84, (s49, (s38, σ.2).2).2) x1 x2 x3 (x4 ||| 1) (x5 + 1))) ∧ ((r100 = 1) → (Q 0 (s84, (s49, (s38, σ.2).2).2))))))) (fun r84 s84 => (wL_L_isByOne_6 Q n (s84, (s49, (s38, σ.2).2).2) x1 x2 x3 (x4 ||| 1) (x5 + 1))))) ∧ ((¬ r49 = 1) → (((¬ r49 = 3) → (w_X8_setRole (s49, (s38, σ.2).2).1 x1 x5 0 (fun E s84 => (E = gk_E3 ∧ (w_X8_near (s84, (s49, (s38, σ.2).2).2).1 x1 x5 (fun r100 => ((¬ r100 = 1) → (wL_L_isByOne_6 Q n (s84, (s49, (s38, σ.2).2).2) x1 x2 x3 (x4 ||| 0) (x5 + 1))) ∧ ((r100 = 1) → (Q 0 (s84, (s49, (s38, σ.2).2).2))))))) (fun r84 s84 => (wL_L_isByOne_6 Q n (s84, (s49, (s38, σ.2).2).2) x1 x2 x3 (x4 ||| 0) (x5 + 1))))) ∧ ((r49 = 3) → (w_X8_setRole (s49, (s38, σ.2).2).1 x1 x5 0 (fun E s84 => (E = gk_E3 ∧ (w_X8_near (s84, (s49, (s38, σ.2).2).2).1 x1 x5 (fun r100 => ((¬ r100 = 1) → (wL_L_isByOne_6 Q n (s84, (s49, (s38, σ.2).2).2) x1 x2 x3 (x4 ||| 1) (x5 + 1))) ∧ ((r100 = 1) → (Q 0 (s84, (s49, (s38, σ.2).2).2))))))) (fun r84 s84 => (wL_L_isByOne_6 Q n (s84, (s49, (s38, σ.2).2).2) x1 x2 x3 (x4 ||| 1) (x5 + 1)))))))))))) ∧ ((¬ (σ.2.1 (22 + x1.toNatClampNeg) x5.toNatClampNeg) = 0) → (wL_L_isByOne_6 Q n σ x1 x2 x3 x4 (x5 + 1))))))
def w_L_isByOne (σ : nk_C) (a1 : Int32) (a2 : Int32) (a3 : Int32) (Q : Int32 → nk_C → Prop) : Prop := (∃ n6, n6 ≤ 6 ∧ wL_L_isByOne_6 Q n6 σ a1 a2 a3 0 0)
abbrev rmL_isByOne : Room := { frames := 8, cells := 24, slots := 144, locals := 165 }
set_option maxHeartbeats 4000000 in
set_option maxRecDepth 100000 in
theorem tL_L_isByOne_6 {p : Program} {l : Launch} {e : Env} {s : State} {m : MethodId} {args : Array Value} {below : List Frame} {meth : Method} {c : Code} {D : va_G} {cI cZ cG cL : ClassId} {ad am : Nat → Nat} {q1 q2 q3 b0 L : Nat} {xs : Nat → Int32} (C0 : gk_F p s m args meth c cL_isByOne 7 (some .boolean) RL) (hK : gk_K D cI cZ cG cL s) (hZ : nk_Z q1 q2 q3 b0 L xs (nk_A ad am s.heap.size) s s.heap) (htab : c.exceptionTable.toList = tableOf [(30, 88, 91, 142)]) (hfl : l.stackTraces = false) {Q : Int32 → nk_C → Prop} : ∀ (n : Nat) (σ : nk_C) (x1 : Int32) (x2 : Int32) (x3 : Int32) (x4 : Int32) (x5 : Int32), n ≤ 6 → wL_L_isByOne_6 Q n σ x1 x2 x3 x4 x5 → ∀ (H : Heap) (locs : List Loc), nk_W D cI cZ cL ad am b0 σ H → va_S (nk_A ad am s.heap.size) s.heap H locs → ∀ (ls : Array Slot), lv_has ls 7 [(0, .ref (am 0)), (1, .int x1), (2, .int x2), (3, .int x3), (4, .int x4), (5, .int x5)] → W p l e rmL_isByOne s m args below meth c H locs (4 * (6 - n)) (24 * (6 - n)) (vx_MQ below (va_Qi (fun r u => Q r u) (nk_B D cI cZ cL ad am b0) (nk_A ad am s.heap.size)) nk_XF args s 24 144 (nk_A ad am s.heap.size)) (F0 m 6 ls []) := by
  obtain ⟨hx, hb, hml, hown, hts, hr, hlocks⟩ := id C0
  intro n
  induction n with
  | zero => exact fun _ _ _ _ _ _ _ hw => False.elim hw
  | succ n ih =>
    intro σ x1 x2 x3 x4 x5 hn9 hw H locs hW hS  ls hl
    refine lv_iload hx hb dL_isByOne_6 (lv_at hl 5 rfl) ?_
    refine lv_aload_n hx hb dL_isByOne_8 rfl (lv_at hl 0 rfl) ?_
    refine gk_get hx hb hts iwX9 hown hK.1 (nk_obj hW) rfl 9 (by decide) (hts _ fl_L_72) (fun _ h9 => h9) rfl dL_isByOne_9 ?_
    refine lv_icmp_ge (tgt := 115) hx hb dL_isByOne_12 (by decide) (fun c12 => ?_) (fun c12 => ?_)
    · have hw := hw.1 c12
      refine lv_iload hx hb dL_isByOne_115 (lv_at hl 4 rfl) ?_
      refine W.widen (k := 24) (n := 144) (by omega) (by omega) ?_
      refine vx_ret ?_
      obtain ⟨hz, hw⟩ := hw
      exact nk_retz C0 hz hw hW hS dL_isByOne_117
    · have hw := hw.2 c12
      refine lv_aload_n hx hb dL_isByOne_15 rfl (lv_at hl 0 rfl) ?_
      refine gk_get hx hb hts iwX9 hown hK.1 (nk_obj hW) rfl 6 (by decide) (hts _ fl_L_135) (fun _ h9 => h9) rfl dL_isByOne_16 ?_
      refine lv_iload_n hx hb dL_isByOne_19 rfl (lv_at hl 1 rfl) ?_
      obtain ⟨hin, hw⟩ := hw
      refine nk_aalz hx hb hK (nk_o6 hW) hin (by decide) dL_isByOne_20 (fun hz20 => ?_)
      refine lv_iload hx hb dL_isByOne_21 (lv_at hl 5 rfl) ?_
      obtain ⟨hin, hw⟩ := hw
      refine gk_zald hx hb hK.1 1 (nk_zr hW hz20) rfl hin dL_isByOne_23 ?_
      refine lv_if_eq (tgt := 30) hx hb dL_isByOne_24 (by decide) (fun c24 => ?_) (fun c24 => ?_)
      · have hw := hw.1 c24
        refine lv_aload_n hx hb dL_isByOne_30 rfl (lv_at hl 0 rfl) ?_
        refine gk_get hx hb hts iwX9 hown hK.1 (nk_obj hW) rfl 0 (by decide) (hts _ fl_L_14) (fun _ h9 => h9) rfl dL_isByOne_31 ?_
        refine lv_iload_n hx hb dL_isByOne_34 rfl (lv_at hl 1 rfl) ?_
        refine lv_iload hx hb dL_isByOne_35 (lv_at hl 5 rfl) ?_
        refine lv_iconst (v := 1) hx hb dL_isByOne_37 (by decide) ?_
        refine nk_gTi ⟨hx, hb, hml, hown, hts⟩ (c_X8_setRole l hfl D cI cZ cG cL ad q1 q2 q3 hw) (cwV 3 hts (gk_gV ml_L_138 im_X8_setRole se_X8_setRole in_X8 co_X8_setRole) rfl rfl rfl (by decide +kernel) ⟨Nat.le_of_ble_eq_true rfl, Nat.le_of_ble_eq_true rfl⟩) (gk_recv hK.1 (gk_o0 hW.1) rfl) hW hK hZ hS (nk_A.up hS.1) rfl hl.1 (rest := []) rfl (lv_room (Nat.le_of_ble_eq_true rfl)) dL_isByOne_38 ⟨by show _ ≤ 24; omega, by show _ ≤ 144; omega⟩ (fun E ce q9 s38 H locs hT hW hk hS hc1 hc2 hc3 => ?_) (fun r38 s38 H locs hw hW hk hS => ?_)
        · obtain ⟨rfl, hw⟩ := hT
          refine vx_catch hown [] ⟨30, 88, 91, 142⟩ [] (by rw [htab]; rfl) (fun z hz => nomatch hz) (by decide) (by decide) (hts _ cl_L_142) (va_Nw.use rfl (hZ.1.2.1 _ (by decide))) hc1 hc2 hc3 ?_
          refine lv_astore (lv' := [(6, .ref q9), (0, .ref (am 0)), (1, .int x1), (2, .int x2), (3, .int x3), (4, .int x4), (5, .int x5)]) hx hb dL_isByOne_91 hl (by decide) rfl (fun ls hl => ?_)
          refine lv_aload_n hx hb dL_isByOne_93 rfl (lv_at hl 1 rfl) ?_
          refine gk_get hx hb hts iwX9 hown hK.1 (nk_obj hW) rfl 0 (by decide) (hts _ fl_L_14) (fun _ h9 => h9) rfl dL_isByOne_94 ?_
          refine lv_iload_n hx hb dL_isByOne_97 rfl (lv_at hl 2 rfl) ?_
          refine lv_iload hx hb dL_isByOne_98 (lv_at hl 6 rfl) ?_
          refine nk_gRi ⟨hx, hb, hml, hown, hts⟩ (c_X8_near l D cI cZ cG cL ad hw) (cwV 2 hts (gk_gV ml_L_79 im_X8_near se_X8_near in_X8 co_X8_near) rfl rfl rfl (by decide +kernel) ⟨Nat.le_of_ble_eq_true rfl, Nat.le_of_ble_eq_true rfl⟩) (gk_recv hK.1 (gk_o0 hW.1) rfl) hW hK hS (nk_A.up hS.1) rfl hl.1 (rest := []) rfl (lv_room (Nat.le_of_ble_eq_true rfl)) dL_isByOne_100 ⟨by show _ ≤ 24; omega, by show _ ≤ 144; omega⟩ (fun r100 H locs hw hW _ hk hS => ?_)
          refine lv_iconst (v := 1) hx hb dL_isByOne_103 (by decide) ?_
          refine lv_icmp_ne (tgt := 109) hx hb dL_isByOne_104 (by decide) (fun c104 => ?_) (fun c104 => ?_)
          · have hw := hw.1 c104
            refine lv_iinc (v := (x5 + 1)) (lv' := [(5, .int (x5 + 1)), (6, .ref q9), (0, .ref (am 0)), (1, .int x1), (2, .int x2), (3, .int x3), (4, .int x4)]) hx hb dL_isByOne_109 hl (k := 6) rfl rfl (by decide) rfl (fun ls hl => ?_)
            refine lv_goto (tgt := 6) hx hb dL_isByOne_112 (by decide) ?_
            refine W.widen (k := 4 * (6 - n)) (n := 24 * (6 - n)) (by omega) (by omega) ?_
            exact ih (s38, σ.2) x1 x2 x3 x4 (x5 + 1) (by omega) hw _ _ hW hS  _ (lv_sub hl [2, 3, 4, 5, 6, 0] rfl)
          · have hw := hw.2 c104
            refine lv_iconst (v := 0) hx hb dL_isByOne_107 (by decide) ?_
            refine W.widen (k := 24) (n := 144) (by omega) (by omega) ?_
            refine vx_ret ?_
            exact nk_retz C0 (by decide) hw hW hS dL_isByOne_108
        · refine lv_pop hx hb dL_isByOne_41 rfl ?_
          refine lv_aload_n hx hb dL_isByOne_42 rfl (lv_at hl 0 rfl) ?_
          refine gk_get hx hb hts iwX9 hown hK.1 (nk_obj hW) rfl 0 (by decide) (hts _ fl_L_14) (fun _ h9 => h9) rfl dL_isByOne_43 ?_
          refine lv_iload_n hx hb dL_isByOne_46 rfl (lv_at hl 1 rfl) ?_
          refine lv_iload_n hx hb dL_isByOne_47 rfl (lv_at hl 2 rfl) ?_
          refine lv_iload_n hx hb dL_isByOne_48 rfl (lv_at hl 3 rfl) ?_
          refine nk_gVi ⟨hx, hb, hml, hown, hts⟩ (c_X8_decide l D cI cZ cG cL ad hw) (cwV 3 hts (gk_gV ml_L_54 im_X8_decide se_X8_decide in_X8 co_X8_decide) rfl rfl rfl (by decide +kernel) ⟨Nat.le_of_ble_eq_true rfl, Nat.le_of_ble_eq_true rfl⟩) (gk_recv hK.1 (gk_o0 hW.1) rfl) hW hK hS (nk_A.up hS.1) rfl hl.1 (rest := []) rfl (lv_room (Nat.le_of_ble_eq_true rfl)) dL_isByOne_49 ⟨by show _ ≤ 24; omega, by show _ ≤ 144; omega⟩ (fun r49 s49 H locs hw hW _ hk hS => ?_)
          refine lv_istore (lv' := [(6, .int r49), (0, .ref (am 0)), (1, .int x1), (2, .int x2), (3, .int x3), (4, .int x4), (5, .int x5)]) hx hb dL_isByOne_52 hl (by decide) rfl (fun ls hl => ?_)
          refine lv_iload hx hb dL_isByOne_54 (lv_at hl 5 rfl) ?_
          refine lv_iload hx hb dL_isByOne_56 (lv_at hl 0 rfl) ?_
          refine lv_iconst (v := 1) hx hb dL_isByOne_58 (by decide) ?_
          refine lv_icmp_eq (tgt := 68) hx hb dL_isByOne_59 (by decide) (fun c59 => ?_) (fun c59 => ?_)
          · have hw := hw.1 c59
            refine lv_iconst (v := 1) hx hb dL_isByOne_68 (by decide) ?_
            refine lv_goto (tgt := 73) hx hb dL_isByOne_69 (by decide) ?_
            refine lv_ior hx hb dL_isByOne_73 ?_
            refine lv_istore (lv' := [(4, .int (x4 ||| 1)), (6, .int r49), (0, .ref (am 0)), (1, .int x1), (2, .int x2), (3, .int x3), (5, .int x5)]) hx hb dL_isByOne_74 hl (by decide) rfl (fun ls hl => ?_)
            refine lv_aload_n hx hb dL_isByOne_76 rfl (lv_at hl 2 rfl) ?_
            refine gk_get hx hb hts iwX9 hown hK.1 (nk_obj hW) rfl 0 (by decide) (hts _ fl_L_14) (fun _ h9 => h9) rfl dL_isByOne_77 ?_
            refine lv_iload_n hx hb dL_isByOne_80 rfl (lv_at hl 3 rfl) ?_
            refine lv_iload hx hb dL_isByOne_81 (lv_at hl 6 rfl) ?_
            refine lv_iconst (v := 0) hx hb dL_isByOne_83 (by decide) ?_
            refine nk_gTi ⟨hx, hb, hml, hown, hts⟩ (c_X8_setRole l hfl D cI cZ cG cL ad q1 q2 q3 hw) (cwV 3 hts (gk_gV ml_L_138 im_X8_setRole se_X8_setRole in_X8 co_X8_setRole) rfl rfl rfl (by decide +kernel) ⟨Nat.le_of_ble_eq_true rfl, Nat.le_of_ble_eq_true rfl⟩) (gk_recv hK.1 (gk_o0 hW.1) rfl) hW hK hZ hS (nk_A.up hS.1) rfl hl.1 (rest := []) rfl (lv_room (Nat.le_of_ble_eq_true rfl)) dL_isByOne_84 ⟨by show _ ≤ 24; omega, by show _ ≤ 144; omega⟩ (fun E ce q9 s84 H locs hT hW hk hS hc1 hc2 hc3 => ?_) (fun r84 s84 H locs hw hW hk hS => ?_)
            · obtain ⟨rfl, hw⟩ := hT
              refine vx_catch hown [] ⟨30, 88, 91, 142⟩ [] (by rw [htab]; rfl) (fun z hz => nomatch hz) (by decide) (by decide) (hts _ cl_L_142) (va_Nw.use rfl (hZ.1.2.1 _ (by decide))) hc1 hc2 hc3 ?_
              refine lv_astore (lv' := [(6, .ref q9), (4, .int (x4 ||| 1)), (0, .ref (am 0)), (1, .int x1), (2, .int x2), (3, .int x3), (5, .int x5)]) hx hb dL_isByOne_91 hl (by decide) rfl (fun ls hl => ?_)
              refine lv_aload_n hx hb dL_isByOne_93 rfl (lv_at hl 2 rfl) ?_
              refine gk_get hx hb hts iwX9 hown hK.1 (nk_obj hW) rfl 0 (by decide) (hts _ fl_L_14) (fun _ h9 => h9) rfl dL_isByOne_94 ?_
              refine lv_iload_n hx hb dL_isByOne_97 rfl (lv_at hl 3 rfl) ?_
              refine lv_iload hx hb dL_isByOne_98 (lv_at hl 6 rfl) ?_
              refine nk_gRi ⟨hx, hb, hml, hown, hts⟩ (c_X8_near l D cI cZ cG cL ad hw) (cwV 2 hts (gk_gV ml_L_79 im_X8_near se_X8_near in_X8 co_X8_near) rfl rfl rfl (by decide +kernel) ⟨Nat.le_of_ble_eq_true rfl, Nat.le_of_ble_eq_true rfl⟩) (gk_recv hK.1 (gk_o0 hW.1) rfl) hW hK hS (nk_A.up hS.1) rfl hl.1 (rest := []) rfl (lv_room (Nat.le_of_ble_eq_true rfl)) dL_isByOne_100 ⟨by show _ ≤ 24; omega, by show _ ≤ 144; omega⟩ (fun r100 H locs hw hW _ hk hS => ?_)
              refine lv_iconst (v := 1) hx hb dL_isByOne_103 (by decide) ?_
              refine lv_icmp_ne (tgt := 109) hx hb dL_isByOne_104 (by decide) (fun c104 => ?_) (fun c104 => ?_)
              · have hw := hw.1 c104
                refine lv_iinc (v := (x5 + 1)) (lv' := [(5, .int (x5 + 1)), (6, .ref q9), (4, .int (x4 ||| 1)), (0, .ref (am 0)), (1, .int x1), (2, .int x2), (3, .int x3)]) hx hb dL_isByOne_109 hl (k := 6) rfl rfl (by decide) rfl (fun ls hl => ?_)
                refine lv_goto (tgt := 6) hx hb dL_isByOne_112 (by decide) ?_
                refine W.widen (k := 4 * (6 - n)) (n := 24 * (6 - n)) (by omega) (by omega) ?_
                exact ih (s84, (s49, (s38, σ.2).2).2) x1 x2 x3 (x4 ||| 1) (x5 + 1) (by omega) hw _ _ hW hS  _ (lv_sub hl [3, 4, 5, 6, 2, 0] rfl)
              · have hw := hw.2 c104
                refine lv_iconst (v := 0) hx hb dL_isByOne_107 (by decide) ?_
                refine W.widen (k := 24) (n := 144) (by omega) (by omega) ?_
                refine vx_ret ?_
                exact nk_retz C0 (by decide) hw hW hS dL_isByOne_108
            · refine lv_pop hx hb dL_isByOne_87 rfl ?_
              refine lv_goto (tgt := 109) hx hb dL_isByOne_88 (by decide) ?_
              refine lv_iinc (v := (x5 + 1)) (lv' := [(5, .int (x5 + 1)), (4, .int (x4 ||| 1)), (6, .int r49), (0, .ref (am 0)), (1, .int x1), (2, .int x2), (3, .int x3)]) hx hb dL_isByOne_109 hl (k := 6) rfl rfl (by decide) rfl (fun ls hl => ?_)
              refine lv_goto (tgt := 6) hx hb dL_isByOne_112 (by decide) ?_
              refine W.widen (k := 4 * (6 - n)) (n := 24 * (6 - n)) (by omega) (by omega) ?_
              exact ih (s84, (s49, (s38, σ.2).2).2) x1 x2 x3 (x4 ||| 1) (x5 + 1) (by omega) hw _ _ hW hS  _ (lv_sub hl [3, 4, 5, 6, 1, 0] rfl)
          · have hw := hw.2 c59
            refine lv_iload hx hb dL_isByOne_62 (lv_at hl 0 rfl) ?_
            refine lv_iconst (v := 3) hx hb dL_isByOne_64 (by decide) ?_
            refine lv_icmp_ne (tgt := 72) hx hb dL_isByOne_65 (by decide) (fun c65 => ?_) (fun c65 => ?_)
            · have hw := hw.1 c65
              refine lv_iconst (v := 0) hx hb dL_isByOne_72 (by decide) ?_
              refine lv_ior hx hb dL_isByOne_73 ?_
              refine lv_istore (lv' := [(4, .int (x4 ||| 0)), (6, .int r49), (0, .ref (am 0)), (1, .int x1), (2, .int x2), (3, .int x3), (5, .int x5)]) hx hb dL_isByOne_74 hl (by decide) rfl (fun ls hl => ?_)
              refine lv_aload_n hx hb dL_isByOne_76 rfl (lv_at hl 2 rfl) ?_
              refine gk_get hx hb hts iwX9 hown hK.1 (nk_obj hW) rfl 0 (by decide) (hts _ fl_L_14) (fun _ h9 => h9) rfl dL_isByOne_77 ?_
              refine lv_iload_n hx hb dL_isByOne_80 rfl (lv_at hl 3 rfl) ?_
              refine lv_iload hx hb dL_isByOne_81 (lv_at hl 6 rfl) ?_
              refine lv_iconst (v := 0) hx hb dL_isByOne_83 (by decide) ?_
              refine nk_gTi ⟨hx, hb, hml, hown, hts⟩ (c_X8_setRole l hfl D cI cZ cG cL ad q1 q2 q3 hw) (cwV 3 hts (gk_gV ml_L_138 im_X8_setRole se_X8_setRole in_X8 co_X8_setRole) rfl rfl rfl (by decide +kernel) ⟨Nat.le_of_ble_eq_true rfl, Nat.le_of_ble_eq_true rfl⟩) (gk_recv hK.1 (gk_o0 hW.1) rfl) hW hK hZ hS (nk_A.up hS.1) rfl hl.1 (rest := []) rfl (lv_room (Nat.le_of_ble_eq_true rfl)) dL_isByOne_84 ⟨by show _ ≤ 24; omega, by show _ ≤ 144; omega⟩ (fun E ce q9 s84 H locs hT hW hk hS hc1 hc2 hc3 => ?_) (fun r84 s84 H locs hw hW hk hS => ?_)
              · obtain ⟨rfl, hw⟩ := hT
                refine vx_catch hown [] ⟨30, 88, 91, 142⟩ [] (by rw [htab]; rfl) (fun z hz => nomatch hz) (by decide) (by decide) (hts _ cl_L_142) (va_Nw.use rfl (hZ.1.2.1 _ (by decide))) hc1 hc2 hc3 ?_
                refine lv_astore (lv' := [(6, .ref q9), (4, .int (x4 ||| 0)), (0, .ref (am 0)), (1, .int x1), (2, .int x2), (3, .int x3), (5, .int x5)]) hx hb dL_isByOne_91 hl (by decide) rfl (fun ls hl => ?_)
                refine lv_aload_n hx hb dL_isByOne_93 rfl (lv_at hl 2 rfl) ?_
                refine gk_get hx hb hts iwX9 hown hK.1 (nk_obj hW) rfl 0 (by decide) (hts _ fl_L_14) (fun _ h9 => h9) rfl dL_isByOne_94 ?_
                refine lv_iload_n hx hb dL_isByOne_97 rfl (lv_at hl 3 rfl) ?_
                refine lv_iload hx hb dL_isByOne_98 (lv_at hl 6 rfl) ?_
                refine nk_gRi ⟨hx, hb, hml, hown, hts⟩ (c_X8_near l D cI cZ cG cL ad hw) (cwV 2 hts (gk_gV ml_L_79 im_X8_near se_X8_near in_X8 co_X8_near) rfl rfl rfl (by decide +kernel) ⟨Nat.le_of_ble_eq_true rfl, Nat.le_of_ble_eq_true rfl⟩) (gk_recv hK.1 (gk_o0 hW.1) rfl) hW hK hS (nk_A.up hS.1) rfl hl.1 (rest := []) rfl (lv_room (Nat.le_of_ble_eq_true rfl)) dL_isByOne_100 ⟨by show _ ≤ 24; omega, by show _ ≤ 144; omega⟩ (fun r100 H locs hw hW _ hk hS => ?_)
                refine lv_iconst (v := 1) hx hb dL_isByOne_103 (by decide) ?_
                refine lv_icmp_ne (tgt := 109) hx hb dL_isByOne_104 (by decide) (fun c104 => ?_) (fun c104 => ?_)
                · have hw := hw.1 c104
                  refine lv_iinc (v := (x5 + 1)) (lv' := [(5, .int (x5 + 1)), (6, .ref q9), (4, .int (x4 ||| 0)), (0, .ref (am 0)), (1, .int x1), (2, .int x2), (3, .int x3)]) hx hb dL_isByOne_109 hl (k := 6) rfl rfl (by decide) rfl (fun ls hl => ?_)
                  refine lv_goto (tgt := 6) hx hb dL_isByOne_112 (by decide) ?_
                  refine W.widen (k := 4 * (6 - n)) (n := 24 * (6 - n)) (by omega) (by omega) ?_
                  exact ih (s84, (s49, (s38, σ.2).2).2) x1 x2 x3 (x4 ||| 0) (x5 + 1) (by omega) hw _ _ hW hS  _ (lv_sub hl [3, 4, 5, 6, 2, 0] rfl)
                · have hw := hw.2 c104
                  refine lv_iconst (v := 0) hx hb dL_isByOne_107 (by decide) ?_
                  refine W.widen (k := 24) (n := 144) (by omega) (by omega) ?_
                  refine vx_ret ?_
                  exact nk_retz C0 (by decide) hw hW hS dL_isByOne_108
              · refine lv_pop hx hb dL_isByOne_87 rfl ?_
                refine lv_goto (tgt := 109) hx hb dL_isByOne_88 (by decide) ?_
                refine lv_iinc (v := (x5 + 1)) (lv' := [(5, .int (x5 + 1)), (4, .int (x4 ||| 0)), (6, .int r49), (0, .ref (am 0)), (1, .int x1), (2, .int x2), (3, .int x3)]) hx hb dL_isByOne_109 hl (k := 6) rfl rfl (by decide) rfl (fun ls hl => ?_)
                refine lv_goto (tgt := 6) hx hb dL_isByOne_112 (by decide) ?_
                refine W.widen (k := 4 * (6 - n)) (n := 24 * (6 - n)) (by omega) (by omega) ?_
                exact ih (s84, (s49, (s38, σ.2).2).2) x1 x2 x3 (x4 ||| 0) (x5 + 1) (by omega) hw _ _ hW hS  _ (lv_sub hl [3, 4, 5, 6, 1, 0] rfl)
            · have hw := hw.2 c65
              refine lv_iconst (v := 1) hx hb dL_isByOne_68 (by decide) ?_
              refine lv_goto (tgt := 73) hx hb dL_isByOne_69 (by decide) ?_
              refine lv_ior hx hb dL_isByOne_73 ?_
              refine lv_istore (lv' := [(4, .int (x4 ||| 1)), (6, .int r49), (0, .ref (am 0)), (1, .int x1), (2, .int x2), (3, .int x3), (5, .int x5)]) hx hb dL_isByOne_74 hl (by decide) rfl (fun ls hl => ?_)
              refine lv_aload_n hx hb dL_isByOne_76 rfl (lv_at hl 2 rfl) ?_
              refine gk_get hx hb hts iwX9 hown hK.1 (nk_obj hW) rfl 0 (by decide) (hts _ fl_L_14) (fun _ h9 => h9) rfl dL_isByOne_77 ?_
              refine lv_iload_n hx hb dL_isByOne_80 rfl (lv_at hl 3 rfl) ?_
              refine lv_iload hx hb dL_isByOne_81 (lv_at hl 6 rfl) ?_
              refine lv_iconst (v := 0) hx hb dL_isByOne_83 (by decide) ?_
              refine nk_gTi ⟨hx, hb, hml, hown, hts⟩ (c_X8_setRole l hfl D cI cZ cG cL ad q1 q2 q3 hw) (cwV 3 hts (gk_gV ml_L_138 im_X8_setRole se_X8_setRole in_X8 co_X8_setRole) rfl rfl rfl (by decide +kernel) ⟨Nat.le_of_ble_eq_true rfl, Nat.le_of_ble_eq_true rfl⟩) (gk_recv hK.1 (gk_o0 hW.1) rfl) hW hK hZ hS (nk_A.up hS.1) rfl hl.1 (rest := []) rfl (lv_room (Nat.le_of_ble_eq_true rfl)) dL_isByOne_84 ⟨by show _ ≤ 24; omega, by show _ ≤ 144; omega⟩ (fun E ce q9 s84 H locs hT hW hk hS hc1 hc2 hc3 => ?_) (fun r84 s84 H locs hw hW hk hS => ?_)
              · obtain ⟨rfl, hw⟩ := hT
                refine vx_catch hown [] ⟨30, 88, 91, 142⟩ [] (by rw [htab]; rfl) (fun z hz => nomatch hz) (by decide) (by decide) (hts _ cl_L_142) (va_Nw.use rfl (hZ.1.2.1 _ (by decide))) hc1 hc2 hc3 ?_
                refine lv_astore (lv' := [(6, .ref q9), (4, .int (x4 ||| 1)), (0, .ref (am 0)), (1, .int x1), (2, .int x2), (3, .int x3), (5, .int x5)]) hx hb dL_isByOne_91 hl (by decide) rfl (fun ls hl => ?_)
                refine lv_aload_n hx hb dL_isByOne_93 rfl (lv_at hl 2 rfl) ?_
                refine gk_get hx hb hts iwX9 hown hK.1 (nk_obj hW) rfl 0 (by decide) (hts _ fl_L_14) (fun _ h9 => h9) rfl dL_isByOne_94 ?_
                refine lv_iload_n hx hb dL_isByOne_97 rfl (lv_at hl 3 rfl) ?_
                refine lv_iload hx hb dL_isByOne_98 (lv_at hl 6 rfl) ?_
                refine nk_gRi ⟨hx, hb, hml, hown, hts⟩ (c_X8_near l D cI cZ cG cL ad hw) (cwV 2 hts (gk_gV ml_L_79 im_X8_near se_X8_near in_X8 co_X8_near) rfl rfl rfl (by decide +kernel) ⟨Nat.le_of_ble_eq_true rfl, Nat.le_of_ble_eq_true rfl⟩) (gk_recv hK.1 (gk_o0 hW.1) rfl) hW hK hS (nk_A.up hS.1) rfl hl.1 (rest := []) rfl (lv_room (Nat.le_of_ble_eq_true rfl)) dL_isByOne_100 ⟨by show _ ≤ 24; omega, by show _ ≤ 144; omega⟩ (fun r100 H locs hw hW _ hk hS => ?_)
                refine lv_iconst (v := 1) hx hb dL_isByOne_103 (by decide) ?_
                refine lv_icmp_ne (tgt := 109) hx hb dL_isByOne_104 (by decide) (fun c104 => ?_) (fun c104 => ?_)
                · have hw := hw.1 c104
                  refine lv_iinc (v := (x5 + 1)) (lv' := [(5, .int (x5 + 1)), (6, .ref q9), (4, .int (x4 ||| 1)), (0, .ref (am 0)), (1, .int x1), (2, .int x2), (3, .int x3)]) hx hb dL_isByOne_109 hl (k := 6) rfl rfl (by decide) rfl (fun ls hl => ?_)
                  refine lv_goto (tgt := 6) hx hb dL_isByOne_112 (by decide) ?_
                  refine W.widen (k := 4 * (6 - n)) (n := 24 * (6 - n)) (by omega) (by omega) ?_
                  exact ih (s84, (s49, (s38, σ.2).2).2) x1 x2 x3 (x4 ||| 1) (x5 + 1) (by omega) hw _ _ hW hS  _ (lv_sub hl [3, 4, 5, 6, 2, 0] rfl)
                · have hw := hw.2 c104
                  refine lv_iconst (v := 0) hx hb dL_isByOne_107 (by decide) ?_
                  refine W.widen (k := 24) (n := 144) (by omega) (by omega) ?_
                  refine vx_ret ?_
                  exact nk_retz C0 (by decide) hw hW hS dL_isByOne_108
              · refine lv_pop hx hb dL_isByOne_87 rfl ?_
                refine lv_goto (tgt := 109) hx hb dL_isByOne_88 (by decide) ?_
                refine lv_iinc (v := (x5 + 1)) (lv' := [(5, .int (x5 + 1)), (4, .int (x4 ||| 1)), (6, .int r49), (0, .ref (am 0)), (1, .int x1), (2, .int x2), (3, .int x3)]) hx hb dL_isByOne_109 hl (k := 6) rfl rfl (by decide) rfl (fun ls hl => ?_)
                refine lv_goto (tgt := 6) hx hb dL_isByOne_112 (by decide) ?_
                refine W.widen (k := 4 * (6 - n)) (n := 24 * (6 - n)) (by omega) (by omega) ?_
                exact ih (s84, (s49, (s38, σ.2).2).2) x1 x2 x3 (x4 ||| 1) (x5 + 1) (by omega) hw _ _ hW hS  _ (lv_sub hl [3, 4, 5, 6, 1, 0] rfl)
      · have hw := hw.2 c24
        refine lv_goto (tgt := 109) hx hb dL_isByOne_27 (by decide) ?_
        refine lv_iinc (v := (x5 + 1)) (lv' := [(5, .int (x5 + 1)), (0, .ref (am 0)), (1, .int x1), (2, .int x2), (3, .int x3), (4, .int x4)]) hx hb dL_isByOne_109 hl (k := 5) rfl rfl (by decide) rfl (fun ls hl => ?_)
        refine lv_goto (tgt := 6) hx hb dL_isByOne_112 (by decide) ?_
        refine W.widen (k := 4 * (6 - n)) (n := 24 * (6 - n)) (by omega) (by omega) ?_
        exact ih σ x1 x2 x3 x4 (x5 + 1) (by omega) hw _ _ hW hS  _ (lv_sub hl [1, 2, 3, 4, 5, 0] rfl)
set_option maxHeartbeats 4000000 in
set_option maxRecDepth 100000 in
theorem c_L_isByOne (l : Launch) (hfl : l.stackTraces = false) (D : va_G) (cI cZ cG cL : ClassId) (ad am : Nat → Nat) (q1 q2 q3 b0 L : Nat) (xs : Nat → Int32) {σ : nk_C} {a1 : Int32} {a2 : Int32} {a3 : Int32} {Q : Int32 → nk_C → Prop} {sz : Nat} (hw : w_L_isByOne σ a1 a2 a3 Q) : vx_Met l yL_isByOne wsL_isByOne rmL_isByOne (nk_Pc D cI cZ cG cL ad am q1 q2 q3 b0 L xs [.ref (am 0), .int a1, .int a2, .int a3] sz σ (fun _ => True)) (va_Qi (fun r u => Q r u) (nk_B D cI cZ cL ad am b0) (nk_A ad am sz)) nk_XF 24 144 (nk_A ad am sz) := by
  refine vx_ofWH (cc := cL_isByOne) (maxL := 7) (ret := (some .boolean)) (by decide) rfl ?_
  intro p e s m args below meth c s₁ B hml0 hv0
  obtain ⟨rfl, hsz, hW, hK, hZ, hX⟩ := hv0
  subst hsz
  have C0 : gk_F p s m ([.ref (am 0), .int a1, .int a2, .int a3] : List Value).toArray meth c cL_isByOne 7 (some .boolean) RL := ⟨B.exec, B.bytes, hml0, findClass_of_methodNamed B.named, fun w hw => atoms_spec (ws := wsL_isByOne) B.pre w (List.mem_cons_of_mem _ hw), B.returns, B.notSynchronized⟩
  obtain ⟨hx, hb, hml, hown, hts, hr, hlocks⟩ := id C0
  have htab := vx_table (x := yL_isByOne) B (atoms_spec (ws := wsL_isByOne) B.pre _ List.mem_cons_self)
  have hS : va_S (nk_A ad am s.heap.size) s.heap s.heap [] := va_S.rf
  have hl := lv_entry ([.ref (am 0), .int a1, .int a2, .int a3]) (n := 7) (Nat.le_of_ble_eq_true rfl)
  rw [lg_entry_eq]
  generalize (lg_sl ([.ref (am 0), .int a1, .int a2, .int a3]) ++ List.replicate (7 - (lg_sl ([.ref (am 0), .int a1, .int a2, .int a3])).length) Slot.unset).toArray = ls at hl ⊢
  have hl : lv_has ls 7 [(0, .ref (am 0)), (1, .int a1), (2, .int a2), (3, .int a3)] := hl
  show W p l e rmL_isByOne s m _ below meth c s.heap [] 0 0 _ _
  refine lv_iconst (v := 0) hx hb dL_isByOne_0 (by decide) ?_
  refine lv_istore (lv' := [(4, .int 0), (0, .ref (am 0)), (1, .int a1), (2, .int a2), (3, .int a3)]) hx hb dL_isByOne_1 hl (by decide) rfl (fun ls hl => ?_)
  refine lv_iconst (v := 0) hx hb dL_isByOne_3 (by decide) ?_
  refine lv_istore (lv' := [(5, .int 0), (4, .int 0), (0, .ref (am 0)), (1, .int a1), (2, .int a2), (3, .int a3)]) hx hb dL_isByOne_4 hl (by decide) rfl (fun ls hl => ?_)
  obtain ⟨n6, hn6, hw⟩ := hw
  refine W.widen (k := 4 * (6 - n6)) (n := 24 * (6 - n6)) (by omega) (by omega) ?_
  refine tL_L_isByOne_6 C0 hK hZ htab hfl  n6 σ a1 a2 a3 0 0 hn6 hw _ _ hW hS  _ (lv_sub hl [2, 3, 4, 5, 1, 0] rfl)
