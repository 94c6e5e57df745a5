/-! ===== cell, below, draw ===== -/
abbrev rmL_below : Room := { frames := 0, cells := 0, slots := 0, locals := 0 }
theorem nk_bel (x : Int32) {N : Nat} (h0 : 0 < N) (h1 : N ≤ 1000) : ∃ k, k < N ∧ (x &&& 2147483647) - (x &&& 2147483647) / nI N * nI N = nI k := by
  obtain ⟨j, hj, e⟩ := pk_andE x (m := 2147483647) 31 (by decide +kernel)
  rw [e, pk_rem hj h0 (by omega)]
  exact ⟨j % N, Nat.mod_lt _ h0, rfl⟩
set_option maxHeartbeats 4000000 in
set_option maxRecDepth 100000 in
theorem c_L_below (l : Launch) {x : Int32} {N : Nat} (h0 : 0 < N) (h1 : N ≤ 1000) : Met l yL_below wsL_below rmL_below (gk_Pn [.int x, .int (nI N)]) (va_Qi (fun r _ => ∃ k, k < N ∧ r = nI k) gk_Bn gk_An) 0 0 gk_An := by
  refine Met.ofW (cc := cL_below) (maxL := 2) (ret := (some .int)) (by decide) rfl ?_
  intro p e s m args below meth c s₁ B hml0 hv0
  obtain ⟨rfl, _⟩ := hv0
  have C0 : gk_F p s m ([.int x, .int (nI N)] : List Value).toArray meth c cL_below 2 (some .int) RL := ⟨B.exec, B.bytes, hml0, findClass_of_methodNamed B.named, fun w hw => atoms_spec (ws := wsL_below) B.pre w (List.mem_cons_of_mem _ hw), B.returns, B.notSynchronized⟩
  obtain ⟨hx, hb, hml, hown, hts, hr, hlocks⟩ := id C0
  have hS : va_S gk_An s.heap s.heap [] := va_S.rf
  have hl := lv_entry ([.int x, .int (nI N)]) (n := 2) (Nat.le_of_ble_eq_true rfl)
  rw [lg_entry_eq]
  generalize (lg_sl ([.int x, .int (nI N)]) ++ List.replicate (2 - (lg_sl ([.int x, .int (nI N)])).length) Slot.unset).toArray = ls at hl ⊢
  have hl : lv_has ls 2 [(0, .int x), (1, .int (nI N))] := hl
  show W p l e rmL_below s m _ below meth c s.heap [] 0 0 _ _
  refine lv_iload_n hx hb dL_below_0 rfl (lv_at hl 0 rfl) ?_
  refine lv_ldc (v := 2147483647) hx hb hown (hts _ k_L_7) dL_below_1 ?_
  refine lv_iand hx hb dL_below_3 ?_
  refine lv_iload_n hx hb dL_below_4 rfl (lv_at hl 1 rfl) ?_
  refine lv_irem hx hb dL_below_5 (nI_ne0 h0 (by omega)) ?_
  exact gk_retn C0 (nk_bel x h0 h1) hS (fun _ h => h) dL_below_6
abbrev rmL_cell : Room := { frames := 0, cells := 0, slots := 0, locals := 0 }
def nk_Px (b L : Nat) (xs : Nat → Int32) (k : Int32) : Array Value → State → Prop := va_Pc [.ref b, .int k] (fun U => va_X b L xs U U.heap ∧ b < U.heap.size)
theorem nk_Px.blind {b L : Nat} {xs : Nat → Int32} {k : Int32} : FrameBlind (nk_Px b L xs k) := fun _ U _ _ q => ⟨q.1, q.2.1.moved (Vm.Alike.refl U.vm), q.2.2⟩
set_option maxHeartbeats 4000000 in
set_option maxRecDepth 100000 in
theorem c_L_cell (l : Launch) {b L : Nat} {xs : Nat → Int32} {k : Int32} (hk : ¬ k < 0) (hL : L ≤ 260) : Met l yL_cell wsL_cell rmL_cell (nk_Px b L xs k) (va_Qi (fun _ _ => True) gk_Bn gk_An) 0 0 gk_An := by
  refine Met.ofW (cc := cL_cell) (maxL := 2) (ret := (some .int)) (by decide) rfl ?_
  intro p e s m args below meth c s₁ B hml0 hv0
  obtain ⟨rfl, hX, hbl⟩ := hv0
  have C0 : gk_F p s m ([.ref b, .int k] : List Value).toArray meth c cL_cell 2 (some .int) RL := ⟨B.exec, B.bytes, hml0, findClass_of_methodNamed B.named, fun w hw => atoms_spec (ws := wsL_cell) B.pre w (List.mem_cons_of_mem _ hw), B.returns, B.notSynchronized⟩
  obtain ⟨hx, hb, hml, hown, hts, hr, hlocks⟩ := id C0
  have hS : va_S gk_An s.heap s.heap [] := va_S.rf
  have hl := lv_entry ([.ref b, .int k]) (n := 2) (Nat.le_of_ble_eq_true rfl)
  rw [lg_entry_eq]
  generalize (lg_sl ([.ref b, .int k]) ++ List.replicate (2 - (lg_sl ([.ref b, .int k])).length) Slot.unset).toArray = ls at hl ⊢
  have hl : lv_has ls 2 [(0, .ref b), (1, .int k)] := hl
  show W p l e rmL_cell s m _ below meth c s.heap [] 0 0 _ _
  refine lv_iload_n hx hb dL_cell_0 rfl (lv_at hl 1 rfl) ?_
  refine lv_aload_n hx hb dL_cell_1 rfl (lv_at hl 0 rfl) ?_
  refine va_slen hx hb hX hbl (fun h => h) hS dL_cell_2 ?_
  refine lv_icmp_ge (tgt := 12) hx hb dL_cell_3 (by decide) (fun c3 => ?_) (fun c3 => ?_)
  · refine lv_ldc (v := 790386105) hx hb hown (hts _ k_L_8) dL_cell_12 ?_
    refine lv_iload_n hx hb dL_cell_14 rfl (lv_at hl 1 rfl) ?_
    refine lv_iconst (v := 3) hx hb dL_cell_15 (by decide) ?_
    refine lv_iadd hx hb dL_cell_16 ?_
    refine lv_imul hx hb dL_cell_17 ?_
    exact gk_retn C0 trivial hS (fun _ h => h) dL_cell_18
  · refine lv_aload_n hx hb dL_cell_6 rfl (lv_at hl 0 rfl) ?_
    refine lv_iload_n hx hb dL_cell_7 rfl (lv_at hl 1 rfl) ?_
    refine va_sld hx hb hX hbl (fun h => h) hS (gk_inR (by omega) hk c3) dL_cell_8 ?_
    refine lv_goto (tgt := 18) hx hb dL_cell_9 (by decide) ?_
    exact gk_retn C0 trivial hS (fun _ h => h) dL_cell_18
abbrev rmX9_draw : Room := { frames := 1, cells := 0, slots := 0, locals := 21 }
def w_X9_draw (σ : nk_C) (a0 : Int32) (Q : Int32 → nk_C → Prop) : Prop := ∃ j N : Nat, σ.2.2 2 = nI j ∧ j < 1000000 ∧ a0 = nI N ∧ 0 < N ∧ N ≤ 1000 ∧ ∀ k, k < N → Q (nI k) (nk_s σ 2 (nI (j + 1)))
set_option maxHeartbeats 4000000 in
set_option maxRecDepth 100000 in
theorem c_X9_draw (l : Launch) (D : va_G) (cI cZ cG cL : ClassId) (ad am : Nat → Nat) (q1 q2 q3 b0 L : Nat) (xs : Nat → Int32) {σ : nk_C} {a0 : Int32} {Q : Int32 → nk_C → Prop} {sz : Nat} (hw : w_X9_draw σ a0 Q) : Met l yX9_draw wsX9_draw rmX9_draw (nk_Pc D cI cZ cG cL ad am q1 q2 q3 b0 L xs [.ref (am 0), .int a0] sz σ (fun _ => True)) (va_Qi (fun r u => Q r u) (nk_B D cI cZ cL ad am b0) (nk_A ad am sz)) 0 0 (nk_A ad am sz) := by
  obtain ⟨j, N, ej, hj, rfl, h0, h1, hw⟩ := hw
  refine Met.ofW (cc := cX9_draw) (maxL := 3) (ret := (some .int)) (by decide) rfl ?_
  intro p e s m args below meth c s₁ B hml0 hv0
  obtain ⟨rfl, hsz, hW, hK, hZ, hX⟩ := hv0
  subst hsz
  have C0 : gk_F p s m ([.ref (am 0), .int (nI N)] : List Value).toArray meth c cX9_draw 3 (some .int) RX9 := ⟨B.exec, B.bytes, hml0, findClass_of_methodNamed B.named, fun w hw => atoms_spec (ws := wsX9_draw) B.pre w (List.mem_cons_of_mem _ hw), B.returns, B.notSynchronized⟩
  obtain ⟨hx, hb, hml, hown, hts, hr, hlocks⟩ := id C0
  have hS : va_S (nk_A ad am s.heap.size) s.heap s.heap [] := va_S.rf
  have hl := lv_entry ([.ref (am 0), .int (nI N)]) (n := 3) (Nat.le_of_ble_eq_true rfl)
  rw [lg_entry_eq]
  generalize (lg_sl ([.ref (am 0), .int (nI N)]) ++ List.replicate (3 - (lg_sl ([.ref (am 0), .int (nI N)])).length) Slot.unset).toArray = ls at hl ⊢
  have hl : lv_has ls 3 [(0, .ref (am 0)), (1, .int (nI N))] := hl
  show W p l e rmX9_draw s m _ below meth c s.heap [] 0 0 _ _
  refine lv_aload_n hx hb dX9_draw_0 rfl (lv_at hl 0 rfl) ?_
  refine gk_get hx hb hts iwX9 hown hK.1 (nk_obj hW) rfl 1 (by decide) (hts _ fl_X9_62) (fun _ h9 => h9) rfl dX9_draw_1 ?_
  refine lv_aload_n hx hb dX9_draw_4 rfl (lv_at hl 0 rfl) ?_
  refine gk_get hx hb hts iwX9 hown hK.1 (nk_obj hW) rfl 2 (by decide) (hts _ fl_X9_65) (fun _ h9 => h9) rfl dX9_draw_5 ?_
  refine lv_bipush (v := 24) hx hb dX9_draw_8 (by decide) ?_
  refine lv_irem hx hb dX9_draw_10 (by decide) ?_
  have e1 : ¬ (σ.2.2 2 - σ.2.2 2 / 24 * 24) < 0 := by
    rw [ej]
    have := pk_rem (a := j) (d := 24) (by omega) (by decide) (by decide)
    have e : nI j - nI j / 24 * 24 = nI (j % 24) := this
    rw [e]
    exact nI_pos (by have := Nat.mod_lt j (show 0 < 24 by decide); omega)
  refine va_calli (va_runSN (As := [.ref b0, .int (σ.2.2 2 - σ.2.2 2 / 24 * 24)]) (rest := []) ⟨hx, hb, hml, hown, hts⟩ (c_L_cell l (b := b0) (L := L) (xs := xs) e1 hZ.2.2.2.2.2) ⟨va_cnB 2 hts (gk_gI co_L_cell) rfl rfl rfl (gk_nw hK nm_X9_68) (hts _ in_L) (by decide +kernel) ⟨Nat.le_of_ble_eq_true rfl, Nat.le_of_ble_eq_true rfl⟩, hts _ st_L_cell, trivial⟩ ⟨nk_Px.blind, fun U hU hW' => ⟨rfl, by rw [hU]; exact (hZ.2.1.moved hW'.alike), by rw [hU]; exact hZ.2.2.1⟩⟩ rfl rfl hl.1 rfl (lv_room (Nat.le_of_ble_eq_true rfl)) dX9_draw_11 ⟨Nat.zero_le _, Nat.zero_le _⟩) hS (fun q _ h => False.elim h) (fun q h => False.elim h) (fun r u t H locs ht _ _ _ hz hk hS => ?_)
  have hW := hW.keptAll (fun q hq => hk q hq id)
  refine lv_aload_n hx hb dX9_draw_14 rfl (lv_at hl 0 rfl) ?_
  refine gk_get hx hb hts iwX9 hown hK.1 (nk_obj hW) rfl 2 (by decide) (hts _ fl_X9_65) (fun _ h9 => h9) rfl dX9_draw_15 ?_
  refine lv_bipush (v := 24) hx hb dX9_draw_18 (by decide) ?_
  refine lv_idiv hx hb dX9_draw_20 (by decide) ?_
  refine lv_bipush (v := 8) hx hb dX9_draw_21 (by decide) ?_
  refine lv_irem hx hb dX9_draw_23 (by decide) ?_
  refine lv_ishr hx hb dX9_draw_24 ?_
  refine lv_bipush (v := 73) hx hb dX9_draw_25 (by decide) ?_
  refine lv_aload_n hx hb dX9_draw_27 rfl (lv_at hl 0 rfl) ?_
  refine gk_get hx hb hts iwX9 hown hK.1 (nk_obj hW) rfl 2 (by decide) (hts _ fl_X9_65) (fun _ h9 => h9) rfl dX9_draw_28 ?_
  refine lv_imul hx hb dX9_draw_31 ?_
  refine lv_iadd hx hb dX9_draw_32 ?_
  refine lv_iload_n hx hb dX9_draw_33 rfl (lv_at hl 1 rfl) ?_
  refine gk_callSNi ⟨hx, hb, hml, hown, hts⟩ (c_L_below l h0 h1) ⟨va_cnB 2 hts (gk_gI co_L_below) rfl rfl rfl (gk_nw hK nm_X9_74) (hts _ in_L) (by decide +kernel) ⟨Nat.le_of_ble_eq_true rfl, Nat.le_of_ble_eq_true rfl⟩, hts _ st_L_below, trivial⟩ hS rfl hl.1 (rest := []) rfl (lv_room (Nat.le_of_ble_eq_true rfl)) dX9_draw_34 ⟨Nat.zero_le _, Nat.zero_le _⟩ (fun r2 H locs hr2 _ hk hS => ?_)
  have hW := hW.keptAll hk
  obtain ⟨k, hkN, rfl⟩ := hr2
  refine lv_istore_n (lv' := [(2, .int (nI k)), (0, .ref (am 0)), (1, .int (nI N))]) hx hb dX9_draw_37 rfl hl (by decide) rfl (fun ls hl => ?_)
  refine lv_aload_n hx hb dX9_draw_38 rfl (lv_at hl 1 rfl) ?_
  refine lv_dup hx hb dX9_draw_39 rfl ?_
  refine gk_get hx hb hts iwX9 hown hK.1 (nk_obj hW) rfl 2 (by decide) (hts _ fl_X9_65) (fun _ h9 => h9) rfl dX9_draw_40 ?_
  refine lv_iconst (v := 1) hx hb dX9_draw_43 (by decide) ?_
  refine lv_iadd hx hb dX9_draw_44 ?_
  have e2 : σ.2.2 2 + 1 = nI (j + 1) := by rw [ej, nI_1]
  rw [e2]
  refine gk_putf (ty := .int) (v := .int (nI (j + 1))) hx hb hts iwX9 tyX9 tyX9_ok nmX9 hown hK.1 hS (nk_A.in (by decide)) (nk_obj hW) rfl 2 (by decide) (hts _ fl_X9_65) (fun _ h9 => h9) rfl (by decide +kernel) rfl rfl (Nat.le_of_ble_eq_true rfl) dX9_draw_45 (fun H locs h1 _ oq hS => ?_)
  have hW := hW.setS (i := 2) (v := nI (j + 1)) h1 oq
  refine lv_iload_n hx hb dX9_draw_48 rfl (lv_at hl 0 rfl) ?_
  exact nk_reti C0 (hw k hkN) hW hS dX9_draw_49
