/-! ===== the law: what holds at its loop, one theorem for each case ===== -/
theorem lo_lcmp {p : Program} {l : Launch} {e : Env} {R : Room} {s : State} {m : MethodId} {args : Array Value} {below : List Frame} {meth : Method} {c : Code} {H : Heap} {locs : List Loc} {cells slots : Nat} {Q : State → Prop} {cc : ByteArray} (hexec : p.tables.exec = Jvm.exec) (hb : c.code = cc) {x y : Int64} (h : x = y) {pc : Nat} {ls : Array Slot} {rest : List Value} (hdg : decode cc pc = .ok (.lcmp, 1))
    (kk : W p l e R s m args below meth c H locs cells slots Q (F0 m (pc + 1) ls (.int 0 :: rest))) : W p l e R s m args below meth c H locs cells slots Q (F0 m pc ls (.long y :: .long x :: rest)) := by
  subst h
  refine W.lcmp hexec hb hdg ?_
  rw [show lg_cmp x x = 0 by simp [lg_cmp]]
  exact kk
def lo_cd (L : Nat) (x4 : Int32) : Prop := ∀ t : Int32, t = 0 ∨ t = 1 ∨ t = 2 ∨ t = 3 ∨ t = 4 ∨ t = 5 ∨ t = 6 → vp_in (x4 + t) L
/-- all that holds in the law's frame -/
def lo_C (p : Program) (s : State) (m : MethodId) (meth : Method) (c : Code) (l : Launch) (D : va_G) (cI cZ cG cL : ClassId) (ad am : Nat → Nat) (q1 q2 q3 oa b L : Nat) (xs : Nat → Int32) : Prop :=
  p.tables.exec = Jvm.exec ∧ c.code = cL_law ∧ c.maxLocals = 9 ∧ s.vm.findClass RL = some m.cls ∧ (∀ w ∈ gk_BG, w.before #[Value.ref b] s = true) ∧ meth.sig.returnType = some .boolean ∧ meth.locks = false ∧ l.stackTraces = false ∧ gk_K D cI cZ cG cL s ∧ gk_Y q1 q2 q3 (lo_A s.heap.size) s s.heap ∧ gk_NC s ∧ lo_D ad am oa s.heap.size ∧ va_X b L xs s s.heap ∧ b < s.heap.size
/-- what comes after a case -/
def lo_Next (cs : List Choice) (I : gk_C → gk_C → Prop) (p : Program) (l : Launch) (e : Env) (R : Room) (s : State) (m : MethodId) (below : List Frame) (meth : Method) (c : Code) (D : va_G) (cI cZ cL : ClassId) (ad am : Nat → Nat) (oa b : Nat) (Q : State → Prop) (x4 : Int32) (k n : Nat) : Prop :=
  ∀ (σ μ : gk_C) (o : Int64) (H : Heap) (locs : List Loc) (d1 : Drawn) (ls : Array Slot), I σ μ → lo_W D cI cZ cL ad am oa σ μ o H → va_S (lo_A s.heap.size) s.heap H locs → s.drawn.sameBut d1 cs → lv_has ls 9 [(0, .ref b), (1, .ref (ad 0)), (2, .ref (am 38)), (3, .ref oa), (4, .int x4)] → W p l e R (s.setDrawn d1) m #[Value.ref b] below meth c H locs k n Q (F0 m 2753 ls [])
set_option maxHeartbeats 4000000 in
set_option maxRecDepth 100000 in
theorem lo_case_0 {p : Program} {l : Launch} {e : Env} {s : State} {m : MethodId} {below : List Frame} {meth : Method} {c : Code} {D : va_G} {cI cZ cG cL : ClassId} {ad am : Nat → Nat} {q1 q2 q3 oa b L : Nat} {xs : Nat → Int32} (C0 : lo_C p s m meth c l D cI cZ cG cL ad am q1 q2 q3 oa b L xs) {cs : List Choice} (hnb : nanBits ∈ cs) {I : gk_C → gk_C → Prop} {Q : State → Prop} {x4 : Int32} {k0 n0 : Nat} (hcd : lo_cd L x4) (hk : k0 + 60 ≤ room_1.cells) (hn : n0 + 6000 ≤ room_1.slots) (kN : lo_Next cs I p l e room_1 s m below meth c D cI cZ cL ad am oa b Q x4 (k0 + 60) (n0 + 6000)) (hH : ∀ (σ μ : gk_C) (o : Int64), I σ μ → ∀ (a0 : Int32) (a1 : Int32), w_L_addUser σ o a0 a1 (fun k σ1 o1 => w_X9_addUser μ a0 a1 (fun r μ1 => μ1.2 0 = k ∧ (k = 0 → o1 = r.toInt64) ∧ I σ1 μ1))) {σ μ : gk_C} {o : Int64} {H : Heap} {locs : List Loc} {d0 : Drawn} {ls : Array Slot} (hI : I σ μ) (hW : lo_W D cI cZ cL ad am oa σ μ o H) (hS : va_S (lo_A s.heap.size) s.heap H locs) (hd0 : s.drawn.sameBut d0 cs) (hl : lv_has ls 9 [(0, .ref b), (1, .ref (ad 0)), (2, .ref (am 38)), (3, .ref oa), (4, .int x4)]) : W p l e room_1 (s.setDrawn d0) m #[Value.ref b] below meth c H locs k0 n0 Q (F0 m 220 ls []) := by
  obtain ⟨hx, hb, hml, hown, hts0, hr, hlocks, hfl, hK0, hY0, hN0, hD, hX0, hbl⟩ := C0
  have hts := dr_words hts0 d0
  have hK := hK0.drawn d0
  have hY := hY0.drawn d0
  have hN : gk_NC (s.setDrawn d0) := hN0
  have hX : va_X b L xs (s.setDrawn d0) s.heap := hX0
  refine lv_aload_n hx hb dL_law_220 rfl (lv_at hl 1 rfl) ?_
  refine lv_aload_n hx hb dL_law_221 rfl (lv_at hl 0 rfl) ?_
  refine lv_iload hx hb dL_law_222 (lv_at hl 4 rfl) ?_
  refine lv_iconst (v := 1) hx hb dL_law_224 (by decide) ?_
  refine lv_iadd hx hb dL_law_225 ?_
  refine lo_xald hx hb hX hbl hS (hcd 1 (by decide)) dL_law_226 ?_
  refine lv_aload_n hx hb dL_law_227 rfl (lv_at hl 0 rfl) ?_
  refine lv_iload hx hb dL_law_228 (lv_at hl 4 rfl) ?_
  refine lv_iconst (v := 2) hx hb dL_law_230 (by decide) ?_
  refine lv_iadd hx hb dL_law_231 ?_
  refine lo_xald hx hb hX hbl hS (hcd 2 (by decide)) dL_law_232 ?_
  refine lv_aload_n hx hb dL_law_233 rfl (lv_at hl 3 rfl) ?_
  have hw := hH σ μ o hI ((xs (x4 + 1).toNatClampNeg)) ((xs (x4 + 2).toNatClampNeg))
  refine lo_callL ⟨hx, hb, hml, hown, hts⟩ (c_L_addUser l hfl D cI cZ cG cL ad q1 q2 q3 oa hw) (vx_cwSW 4 hts (gk_gS ml_L_127 st_L_addUser in_L co_L_addUser) rfl rfl rfl (by decide +kernel) ⟨Nat.le_of_ble_eq_true rfl, Nat.le_of_ble_eq_true rfl⟩) hD hW hK hY hN hS rfl hl.1 (rest := []) rfl (lv_room (Nat.le_of_ble_eq_true rfl)) dL_law_234 ⟨by omega, by omega⟩ (fun r5 σ5 o5 H locs hw hW hS => ?_)
  refine lv_istore (lv' := [(5, .int r5), (0, .ref b), (1, .ref (ad 0)), (2, .ref (am 38)), (3, .ref oa), (4, .int x4)]) hx hb dL_law_237 hl (by decide) rfl (fun ls hl => ?_)
  refine lv_aload_n hx hb dL_law_239 rfl (lv_at hl 3 rfl) ?_
  refine lv_aload_n hx hb dL_law_240 rfl (lv_at hl 1 rfl) ?_
  refine lv_iload hx hb dL_law_241 (lv_at hl 5 rfl) ?_
  refine lv_iconst (v := 1) hx hb dL_law_243 (by decide) ?_
  refine lv_iadd hx hb dL_law_244 ?_
  refine lo_xald hx hb hX hbl hS (hcd 1 (by decide)) dL_law_245 ?_
  refine lv_aload_n hx hb dL_law_246 rfl (lv_at hl 1 rfl) ?_
  refine lv_iload hx hb dL_law_247 (lv_at hl 5 rfl) ?_
  refine lv_iconst (v := 2) hx hb dL_law_249 (by decide) ?_
  refine lv_iadd hx hb dL_law_250 ?_
  refine lo_xald hx hb hX hbl hS (hcd 2 (by decide)) dL_law_251 ?_
  refine lo_callMi ⟨hx, hb, hml, hown, hts⟩ (c_X9_addUser l D cI cZ cG cL am hw) (cwV 2 hts (gk_gV ml_L_132 im_X9_addUser se_X9_addUser in_X9 co_X9_addUser) rfl rfl rfl (by decide +kernel) ⟨Nat.le_of_ble_eq_true rfl, Nat.le_of_ble_eq_true rfl⟩) (gk_recv hK.1 (mk_obj hW.2.1) rfl) hD hW hK hS rfl hl.1 (rest := []) rfl (lv_room (Nat.le_of_ble_eq_true rfl)) dL_law_252 ⟨by omega, by omega⟩ (fun r6 μ6 H locs hw hW hS => ?_)
  obtain ⟨hth, ho, hI⟩ := hw
  refine lv_istore (lv' := [(6, .int r6), (5, .int r5), (0, .ref b), (1, .ref (ad 0)), (2, .ref (am 38)), (3, .ref oa), (4, .int x4)]) hx hb dL_law_255 hl (by decide) rfl (fun ls hl => ?_)
  refine lv_aload_n hx hb dL_law_257 rfl (lv_at hl 4 rfl) ?_
  refine lo_callMi ⟨hx, hb, hml, hown, hts⟩ (c_X9_thrown l D cI cZ cG cL am (Q := fun r => r = r5) hth) (cwV 0 hts (gk_gV ml_L_133 im_X9_thrown se_X9_thrown in_X9 co_X9_thrown) rfl rfl rfl (by decide +kernel) ⟨Nat.le_of_ble_eq_true rfl, Nat.le_of_ble_eq_true rfl⟩) (gk_recv hK.1 (mk_obj hW.2.1) rfl) hD hW hK hS rfl hl.1 (rest := []) rfl (lv_room (Nat.le_of_ble_eq_true rfl)) dL_law_258 ⟨by omega, by omega⟩ (fun r7 μ7 H locs hw7 hW hS => ?_)
  rw [hw7.1] at hW
  have hw7 := hw7.2
  refine lv_iload hx hb dL_law_261 (lv_at hl 1 rfl) ?_
  refine lv_icmp_eq (tgt := 268) hx hb dL_law_263 (by decide) (fun c263 => ?_) (fun c263 => ?_)
  · refine lv_iload hx hb dL_law_268 (lv_at hl 1 rfl) ?_
    refine lv_if_ne (tgt := 285) hx hb dL_law_270 (by decide) (fun c270 => ?_) (fun c270 => ?_)
    · refine lv_goto (tgt := 2753) hx hb dL_law_285 (by decide) ?_
      refine W.widen (k := k0 + 60) (n := n0 + 6000) (by omega) (by omega) ?_
      exact kN _ _ _ _ _ _ _ hI hW hS hd0 (lv_sub hl [2, 3, 4, 5, 6] rfl)
    · have ho := ho c270
      refine lv_aload_n hx hb dL_law_273 rfl (lv_at hl 5 rfl) ?_
      refine lv_iconst (v := 0) hx hb dL_law_274 (by decide) ?_
      refine lo_lald hx hb hK hW.2.2 dL_law_275 ?_
      refine lv_iload hx hb dL_law_276 (lv_at hl 0 rfl) ?_
      refine lv_i2l (v := r6.toInt64) hx hb dL_law_278 rfl ?_
      refine lo_lcmp hx hb (ho) dL_law_279 ?_
      refine lv_if_eq (tgt := 285) hx hb dL_law_280 (by decide) (fun c280 => ?_) (fun c280 => ?_)
      · refine lv_goto (tgt := 2753) hx hb dL_law_285 (by decide) ?_
        refine W.widen (k := k0 + 60) (n := n0 + 6000) (by omega) (by omega) ?_
        exact kN _ _ _ _ _ _ _ hI hW hS hd0 (lv_sub hl [2, 3, 4, 5, 6] rfl)
      · exact absurd rfl c280
  · exact absurd hw7 c263
set_option maxHeartbeats 4000000 in
set_option maxRecDepth 100000 in
theorem lo_case_1 {p : Program} {l : Launch} {e : Env} {s : State} {m : MethodId} {below : List Frame} {meth : Method} {c : Code} {D : va_G} {cI cZ cG cL : ClassId} {ad am : Nat → Nat} {q1 q2 q3 oa b L : Nat} {xs : Nat → Int32} (C0 : lo_C p s m meth c l D cI cZ cG cL ad am q1 q2 q3 oa b L xs) {cs : List Choice} (hnb : nanBits ∈ cs) {I : gk_C → gk_C → Prop} {Q : State → Prop} {x4 : Int32} {k0 n0 : Nat} (hcd : lo_cd L x4) (hk : k0 + 60 ≤ room_1.cells) (hn : n0 + 6000 ≤ room_1.slots) (kN : lo_Next cs I p l e room_1 s m below meth c D cI cZ cL ad am oa b Q x4 (k0 + 60) (n0 + 6000)) (hH : ∀ (σ μ : gk_C) (o : Int64), I σ μ → w_L_addRole σ o  (fun k σ1 o1 => w_X9_addRole μ  (fun r μ1 => μ1.2 0 = k ∧ (k = 0 → o1 = r.toInt64) ∧ I σ1 μ1))) {σ μ : gk_C} {o : Int64} {H : Heap} {locs : List Loc} {d0 : Drawn} {ls : Array Slot} (hI : I σ μ) (hW : lo_W D cI cZ cL ad am oa σ μ o H) (hS : va_S (lo_A s.heap.size) s.heap H locs) (hd0 : s.drawn.sameBut d0 cs) (hl : lv_has ls 9 [(0, .ref b), (1, .ref (ad 0)), (2, .ref (am 38)), (3, .ref oa), (4, .int x4)]) : W p l e room_1 (s.setDrawn d0) m #[Value.ref b] below meth c H locs k0 n0 Q (F0 m 288 ls []) := by
  obtain ⟨hx, hb, hml, hown, hts0, hr, hlocks, hfl, hK0, hY0, hN0, hD, hX0, hbl⟩ := C0
  have hts := dr_words hts0 d0
  have hK := hK0.drawn d0
  have hY := hY0.drawn d0
  have hN : gk_NC (s.setDrawn d0) := hN0
  have hX : va_X b L xs (s.setDrawn d0) s.heap := hX0
  refine lv_aload_n hx hb dL_law_288 rfl (lv_at hl 1 rfl) ?_
  refine lv_aload_n hx hb dL_law_289 rfl (lv_at hl 3 rfl) ?_
  have hw := hH σ μ o hI 
  refine lo_callL ⟨hx, hb, hml, hown, hts⟩ (c_L_addRole l hfl D cI cZ cG cL ad q1 q2 q3 oa hw) (vx_cwSW 2 hts (gk_gS ml_L_136 st_L_addRole in_L co_L_addRole) rfl rfl rfl (by decide +kernel) ⟨Nat.le_of_ble_eq_true rfl, Nat.le_of_ble_eq_true rfl⟩) hD hW hK hY hN hS rfl hl.1 (rest := []) rfl (lv_room (Nat.le_of_ble_eq_true rfl)) dL_law_290 ⟨by omega, by omega⟩ (fun r5 σ5 o5 H locs hw hW hS => ?_)
  refine lv_istore (lv' := [(5, .int r5), (0, .ref b), (1, .ref (ad 0)), (2, .ref (am 38)), (3, .ref oa), (4, .int x4)]) hx hb dL_law_293 hl (by decide) rfl (fun ls hl => ?_)
  refine lv_aload_n hx hb dL_law_295 rfl (lv_at hl 3 rfl) ?_
  refine lo_callMi ⟨hx, hb, hml, hown, hts⟩ (c_X9_addRole l D cI cZ cG cL am hw) (cwV 0 hts (gk_gV ml_L_139 im_X9_addRole se_X9_addRole in_X9 co_X9_addRole) rfl rfl rfl (by decide +kernel) ⟨Nat.le_of_ble_eq_true rfl, Nat.le_of_ble_eq_true rfl⟩) (gk_recv hK.1 (mk_obj hW.2.1) rfl) hD hW hK hS rfl hl.1 (rest := []) rfl (lv_room (Nat.le_of_ble_eq_true rfl)) dL_law_296 ⟨by omega, by omega⟩ (fun r6 μ6 H locs hw hW hS => ?_)
  obtain ⟨hth, ho, hI⟩ := hw
  refine lv_istore (lv' := [(6, .int r6), (5, .int r5), (0, .ref b), (1, .ref (ad 0)), (2, .ref (am 38)), (3, .ref oa), (4, .int x4)]) hx hb dL_law_299 hl (by decide) rfl (fun ls hl => ?_)
  refine lv_aload_n hx hb dL_law_301 rfl (lv_at hl 4 rfl) ?_
  refine lo_callMi ⟨hx, hb, hml, hown, hts⟩ (c_X9_thrown l D cI cZ cG cL am (Q := fun r => r = r5) hth) (cwV 0 hts (gk_gV ml_L_133 im_X9_thrown se_X9_thrown in_X9 co_X9_thrown) rfl rfl rfl (by decide +kernel) ⟨Nat.le_of_ble_eq_true rfl, Nat.le_of_ble_eq_true rfl⟩) (gk_recv hK.1 (mk_obj hW.2.1) rfl) hD hW hK hS rfl hl.1 (rest := []) rfl (lv_room (Nat.le_of_ble_eq_true rfl)) dL_law_302 ⟨by omega, by omega⟩ (fun r7 μ7 H locs hw7 hW hS => ?_)
  rw [hw7.1] at hW
  have hw7 := hw7.2
  refine lv_iload hx hb dL_law_305 (lv_at hl 1 rfl) ?_
  refine lv_icmp_eq (tgt := 312) hx hb dL_law_307 (by decide) (fun c307 => ?_) (fun c307 => ?_)
  · refine lv_iload hx hb dL_law_312 (lv_at hl 1 rfl) ?_
    refine lv_if_ne (tgt := 329) hx hb dL_law_314 (by decide) (fun c314 => ?_) (fun c314 => ?_)
    · refine lv_goto (tgt := 2753) hx hb dL_law_329 (by decide) ?_
      refine W.widen (k := k0 + 60) (n := n0 + 6000) (by omega) (by omega) ?_
      exact kN _ _ _ _ _ _ _ hI hW hS hd0 (lv_sub hl [2, 3, 4, 5, 6] rfl)
    · have ho := ho c314
      refine lv_aload_n hx hb dL_law_317 rfl (lv_at hl 5 rfl) ?_
      refine lv_iconst (v := 0) hx hb dL_law_318 (by decide) ?_
      refine lo_lald hx hb hK hW.2.2 dL_law_319 ?_
      refine lv_iload hx hb dL_law_320 (lv_at hl 0 rfl) ?_
      refine lv_i2l (v := r6.toInt64) hx hb dL_law_322 rfl ?_
      refine lo_lcmp hx hb (ho) dL_law_323 ?_
      refine lv_if_eq (tgt := 329) hx hb dL_law_324 (by decide) (fun c324 => ?_) (fun c324 => ?_)
      · refine lv_goto (tgt := 2753) hx hb dL_law_329 (by decide) ?_
        refine W.widen (k := k0 + 60) (n := n0 + 6000) (by omega) (by omega) ?_
        exact kN _ _ _ _ _ _ _ hI hW hS hd0 (lv_sub hl [2, 3, 4, 5, 6] rfl)
      · exact absurd rfl c324
  · exact absurd hw7 c307
set_option maxHeartbeats 4000000 in
set_option maxRecDepth 100000 in
theorem lo_case_2 {p : Program} {l : Launch} {e : Env} {s : State} {m : MethodId} {below : List Frame} {meth : Method} {c : Code} {D : va_G} {cI cZ cG cL : ClassId} {ad am : Nat → Nat} {q1 q2 q3 oa b L : Nat} {xs : Nat → Int32} (C0 : lo_C p s m meth c l D cI cZ cG cL ad am q1 q2 q3 oa b L xs) {cs : List Choice} (hnb : nanBits ∈ cs) {I : gk_C → gk_C → Prop} {Q : State → Prop} {x4 : Int32} {k0 n0 : Nat} (hcd : lo_cd L x4) (hk : k0 + 60 ≤ room_1.cells) (hn : n0 + 6000 ≤ room_1.slots) (kN : lo_Next cs I p l e room_1 s m below meth c D cI cZ cL ad am oa b Q x4 (k0 + 60) (n0 + 6000)) (hH : ∀ (σ μ : gk_C) (o : Int64), I σ μ → ∀ (a0 : Int32), w_L_addResource σ o a0 (fun k σ1 o1 => w_X9_addResource μ a0 (fun r μ1 => μ1.2 0 = k ∧ (k = 0 → o1 = r.toInt64) ∧ I σ1 μ1))) {σ μ : gk_C} {o : Int64} {H : Heap} {locs : List Loc} {d0 : Drawn} {ls : Array Slot} (hI : I σ μ) (hW : lo_W D cI cZ cL ad am oa σ μ o H) (hS : va_S (lo_A s.heap.size) s.heap H locs) (hd0 : s.drawn.sameBut d0 cs) (hl : lv_has ls 9 [(0, .ref b), (1, .ref (ad 0)), (2, .ref (am 38)), (3, .ref oa), (4, .int x4)]) : W p l e room_1 (s.setDrawn d0) m #[Value.ref b] below meth c H locs k0 n0 Q (F0 m 332 ls []) := by
  obtain ⟨hx, hb, hml, hown, hts0, hr, hlocks, hfl, hK0, hY0, hN0, hD, hX0, hbl⟩ := C0
  have hts := dr_words hts0 d0
  have hK := hK0.drawn d0
  have hY := hY0.drawn d0
  have hN : gk_NC (s.setDrawn d0) := hN0
  have hX : va_X b L xs (s.setDrawn d0) s.heap := hX0
  refine lv_aload_n hx hb dL_law_332 rfl (lv_at hl 1 rfl) ?_
  refine lv_aload_n hx hb dL_law_333 rfl (lv_at hl 0 rfl) ?_
  refine lv_iload hx hb dL_law_334 (lv_at hl 4 rfl) ?_
  refine lv_iconst (v := 1) hx hb dL_law_336 (by decide) ?_
  refine lv_iadd hx hb dL_law_337 ?_
  refine lo_xald hx hb hX hbl hS (hcd 1 (by decide)) dL_law_338 ?_
  refine lv_aload_n hx hb dL_law_339 rfl (lv_at hl 3 rfl) ?_
  have hw := hH σ μ o hI ((xs (x4 + 1).toNatClampNeg))
  refine lo_callL ⟨hx, hb, hml, hown, hts⟩ (c_L_addResource l hfl D cI cZ cG cL ad q1 q2 q3 oa hw) (vx_cwSW 3 hts (gk_gS ml_L_140 st_L_addResource in_L co_L_addResource) rfl rfl rfl (by decide +kernel) ⟨Nat.le_of_ble_eq_true rfl, Nat.le_of_ble_eq_true rfl⟩) hD hW hK hY hN hS rfl hl.1 (rest := []) rfl (lv_room (Nat.le_of_ble_eq_true rfl)) dL_law_340 ⟨by omega, by omega⟩ (fun r5 σ5 o5 H locs hw hW hS => ?_)
  refine lv_istore (lv' := [(5, .int r5), (0, .ref b), (1, .ref (ad 0)), (2, .ref (am 38)), (3, .ref oa), (4, .int x4)]) hx hb dL_law_343 hl (by decide) rfl (fun ls hl => ?_)
  refine lv_aload_n hx hb dL_law_345 rfl (lv_at hl 3 rfl) ?_
  refine lv_aload_n hx hb dL_law_346 rfl (lv_at hl 1 rfl) ?_
  refine lv_iload hx hb dL_law_347 (lv_at hl 5 rfl) ?_
  refine lv_iconst (v := 1) hx hb dL_law_349 (by decide) ?_
  refine lv_iadd hx hb dL_law_350 ?_
  refine lo_xald hx hb hX hbl hS (hcd 1 (by decide)) dL_law_351 ?_
  refine lo_callMi ⟨hx, hb, hml, hown, hts⟩ (c_X9_addResource l D cI cZ cG cL am hw) (cwV 1 hts (gk_gV ml_L_143 im_X9_addResource se_X9_addResource in_X9 co_X9_addResource) rfl rfl rfl (by decide +kernel) ⟨Nat.le_of_ble_eq_true rfl, Nat.le_of_ble_eq_true rfl⟩) (gk_recv hK.1 (mk_obj hW.2.1) rfl) hD hW hK hS rfl hl.1 (rest := []) rfl (lv_room (Nat.le_of_ble_eq_true rfl)) dL_law_352 ⟨by omega, by omega⟩ (fun r6 μ6 H locs hw hW hS => ?_)
  obtain ⟨hth, ho, hI⟩ := hw
  refine lv_istore (lv' := [(6, .int r6), (5, .int r5), (0, .ref b), (1, .ref (ad 0)), (2, .ref (am 38)), (3, .ref oa), (4, .int x4)]) hx hb dL_law_355 hl (by decide) rfl (fun ls hl => ?_)
  refine lv_aload_n hx hb dL_law_357 rfl (lv_at hl 4 rfl) ?_
  refine lo_callMi ⟨hx, hb, hml, hown, hts⟩ (c_X9_thrown l D cI cZ cG cL am (Q := fun r => r = r5) hth) (cwV 0 hts (gk_gV ml_L_133 im_X9_thrown se_X9_thrown in_X9 co_X9_thrown) rfl rfl rfl (by decide +kernel) ⟨Nat.le_of_ble_eq_true rfl, Nat.le_of_ble_eq_true rfl⟩) (gk_recv hK.1 (mk_obj hW.2.1) rfl) hD hW hK hS rfl hl.1 (rest := []) rfl (lv_room (Nat.le_of_ble_eq_true rfl)) dL_law_358 ⟨by omega, by omega⟩ (fun r7 μ7 H locs hw7 hW hS => ?_)
  rw [hw7.1] at hW
  have hw7 := hw7.2
  refine lv_iload hx hb dL_law_361 (lv_at hl 1 rfl) ?_
  refine lv_icmp_eq (tgt := 368) hx hb dL_law_363 (by decide) (fun c363 => ?_) (fun c363 => ?_)
  · refine lv_iload hx hb dL_law_368 (lv_at hl 1 rfl) ?_
    refine lv_if_ne (tgt := 385) hx hb dL_law_370 (by decide) (fun c370 => ?_) (fun c370 => ?_)
    · refine lv_goto (tgt := 2753) hx hb dL_law_385 (by decide) ?_
      refine W.widen (k := k0 + 60) (n := n0 + 6000) (by omega) (by omega) ?_
      exact kN _ _ _ _ _ _ _ hI hW hS hd0 (lv_sub hl [2, 3, 4, 5, 6] rfl)
    · have ho := ho c370
      refine lv_aload_n hx hb dL_law_373 rfl (lv_at hl 5 rfl) ?_
      refine lv_iconst (v := 0) hx hb dL_law_374 (by decide) ?_
      refine lo_lald hx hb hK hW.2.2 dL_law_375 ?_
      refine lv_iload hx hb dL_law_376 (lv_at hl 0 rfl) ?_
      refine lv_i2l (v := r6.toInt64) hx hb dL_law_378 rfl ?_
      refine lo_lcmp hx hb (ho) dL_law_379 ?_
      refine lv_if_eq (tgt := 385) hx hb dL_law_380 (by decide) (fun c380 => ?_) (fun c380 => ?_)
      · refine lv_goto (tgt := 2753) hx hb dL_law_385 (by decide) ?_
        refine W.widen (k := k0 + 60) (n := n0 + 6000) (by omega) (by omega) ?_
        exact kN _ _ _ _ _ _ _ hI hW hS hd0 (lv_sub hl [2, 3, 4, 5, 6] rfl)
      · exact absurd rfl c380
  · exact absurd hw7 c363
set_option maxHeartbeats 4000000 in
set_option maxRecDepth 100000 in
theorem lo_case_3 {p : Program} {l : Launch} {e : Env} {s : State} {m : MethodId} {below : List Frame} {meth : Method} {c : Code} {D : va_G} {cI cZ cG cL : ClassId} {ad am : Nat → Nat} {q1 q2 q3 oa b L : Nat} {xs : Nat → Int32} (C0 : lo_C p s m meth c l D cI cZ cG cL ad am q1 q2 q3 oa b L xs) {cs : List Choice} (hnb : nanBits ∈ cs) {I : gk_C → gk_C → Prop} {Q : State → Prop} {x4 : Int32} {k0 n0 : Nat} (hcd : lo_cd L x4) (hk : k0 + 60 ≤ room_1.cells) (hn : n0 + 6000 ≤ room_1.slots) (kN : lo_Next cs I p l e room_1 s m below meth c D cI cZ cL ad am oa b Q x4 (k0 + 60) (n0 + 6000)) (hH : ∀ (σ μ : gk_C) (o : Int64), I σ μ → ∀ (a0 : Int32) (a1 : Int32) (a2 : Int32), (a2 = 0 ∨ a2 = 1) → w_L_setRole σ o a0 a1 a2 (fun k σ1 o1 => w_X9_setRole μ a0 a1 a2 (fun r μ1 => μ1.2 0 = k ∧ (k = 0 → (¬ r = 0 → o1 = 1) ∧ (r = 0 → o1 = 0)) ∧ I σ1 μ1))) {σ μ : gk_C} {o : Int64} {H : Heap} {locs : List Loc} {d0 : Drawn} {ls : Array Slot} (hI : I σ μ) (hW : lo_W D cI cZ cL ad am oa σ μ o H) (hS : va_S (lo_A s.heap.size) s.heap H locs) (hd0 : s.drawn.sameBut d0 cs) (hl : lv_has ls 9 [(0, .ref b), (1, .ref (ad 0)), (2, .ref (am 38)), (3, .ref oa), (4, .int x4)]) : W p l e room_1 (s.setDrawn d0) m #[Value.ref b] below meth c H locs k0 n0 Q (F0 m 388 ls []) := by
  obtain ⟨hx, hb, hml, hown, hts0, hr, hlocks, hfl, hK0, hY0, hN0, hD, hX0, hbl⟩ := C0
  have hts := dr_words hts0 d0
  have hK := hK0.drawn d0
  have hY := hY0.drawn d0
  have hN : gk_NC (s.setDrawn d0) := hN0
  have hX : va_X b L xs (s.setDrawn d0) s.heap := hX0
  refine lv_aload_n hx hb dL_law_388 rfl (lv_at hl 1 rfl) ?_
  refine lv_aload_n hx hb dL_law_389 rfl (lv_at hl 0 rfl) ?_
  refine lv_iload hx hb dL_law_390 (lv_at hl 4 rfl) ?_
  refine lv_iconst (v := 1) hx hb dL_law_392 (by decide) ?_
  refine lv_iadd hx hb dL_law_393 ?_
  refine lo_xald hx hb hX hbl hS (hcd 1 (by decide)) dL_law_394 ?_
  refine lv_aload_n hx hb dL_law_395 rfl (lv_at hl 0 rfl) ?_
  refine lv_iload hx hb dL_law_396 (lv_at hl 4 rfl) ?_
  refine lv_iconst (v := 2) hx hb dL_law_398 (by decide) ?_
  refine lv_iadd hx hb dL_law_399 ?_
  refine lo_xald hx hb hX hbl hS (hcd 2 (by decide)) dL_law_400 ?_
  refine lv_aload_n hx hb dL_law_401 rfl (lv_at hl 0 rfl) ?_
  refine lv_iload hx hb dL_law_402 (lv_at hl 4 rfl) ?_
  refine lv_iconst (v := 3) hx hb dL_law_404 (by decide) ?_
  refine lv_iadd hx hb dL_law_405 ?_
  refine lo_xald hx hb hX hbl hS (hcd 3 (by decide)) dL_law_406 ?_
  refine lv_if_eq (tgt := 414) hx hb dL_law_407 (by decide) (fun c407 => ?_) (fun c407 => ?_)
  · refine lv_iconst (v := 0) hx hb dL_law_414 (by decide) ?_
    refine lv_aload_n hx hb dL_law_415 rfl (lv_at hl 3 rfl) ?_
    have hw := hH σ μ o hI ((xs (x4 + 1).toNatClampNeg)) ((xs (x4 + 2).toNatClampNeg)) (0) (Or.inl rfl)
    refine lo_callL ⟨hx, hb, hml, hown, hts⟩ (c_L_setRole l hfl D cI cZ cG cL ad q1 q2 q3 oa hw) (vx_cwSW 5 hts (gk_gS ml_L_144 st_L_setRole in_L co_L_setRole) rfl rfl rfl (by decide +kernel) ⟨Nat.le_of_ble_eq_true rfl, Nat.le_of_ble_eq_true rfl⟩) hD hW hK hY hN hS rfl hl.1 (rest := []) rfl (lv_room (Nat.le_of_ble_eq_true rfl)) dL_law_416 ⟨by omega, by omega⟩ (fun r5 σ5 o5 H locs hw hW hS => ?_)
    refine lv_istore (lv' := [(5, .int r5), (0, .ref b), (1, .ref (ad 0)), (2, .ref (am 38)), (3, .ref oa), (4, .int x4)]) hx hb dL_law_419 hl (by decide) rfl (fun ls hl => ?_)
    refine lv_aload_n hx hb dL_law_421 rfl (lv_at hl 3 rfl) ?_
    refine lv_aload_n hx hb dL_law_422 rfl (lv_at hl 1 rfl) ?_
    refine lv_iload hx hb dL_law_423 (lv_at hl 5 rfl) ?_
    refine lv_iconst (v := 1) hx hb dL_law_425 (by decide) ?_
    refine lv_iadd hx hb dL_law_426 ?_
    refine lo_xald hx hb hX hbl hS (hcd 1 (by decide)) dL_law_427 ?_
    refine lv_aload_n hx hb dL_law_428 rfl (lv_at hl 1 rfl) ?_
    refine lv_iload hx hb dL_law_429 (lv_at hl 5 rfl) ?_
    refine lv_iconst (v := 2) hx hb dL_law_431 (by decide) ?_
    refine lv_iadd hx hb dL_law_432 ?_
    refine lo_xald hx hb hX hbl hS (hcd 2 (by decide)) dL_law_433 ?_
    refine lv_aload_n hx hb dL_law_434 rfl (lv_at hl 1 rfl) ?_
    refine lv_iload hx hb dL_law_435 (lv_at hl 5 rfl) ?_
    refine lv_iconst (v := 3) hx hb dL_law_437 (by decide) ?_
    refine lv_iadd hx hb dL_law_438 ?_
    refine lo_xald hx hb hX hbl hS (hcd 3 (by decide)) dL_law_439 ?_
    refine lv_if_eq (tgt := 447) hx hb dL_law_440 (by decide) (fun c440 => ?_) (fun c440 => ?_)
    · refine lv_iconst (v := 0) hx hb dL_law_447 (by decide) ?_
      refine lo_callMi ⟨hx, hb, hml, hown, hts⟩ (c_X9_setRole l D cI cZ cG cL am hw) (cwV 3 hts (gk_gV ml_L_147 im_X9_setRole se_X9_setRole in_X9 co_X9_setRole) rfl rfl rfl (by decide +kernel) ⟨Nat.le_of_ble_eq_true rfl, Nat.le_of_ble_eq_true rfl⟩) (gk_recv hK.1 (mk_obj hW.2.1) rfl) hD hW hK hS rfl hl.1 (rest := []) rfl (lv_room (Nat.le_of_ble_eq_true rfl)) dL_law_448 ⟨by omega, by omega⟩ (fun r6 μ6 H locs hw hW hS => ?_)
      obtain ⟨hth, ho, hI⟩ := hw
      refine lv_istore (lv' := [(6, .int r6), (5, .int r5), (0, .ref b), (1, .ref (ad 0)), (2, .ref (am 38)), (3, .ref oa), (4, .int x4)]) hx hb dL_law_451 hl (by decide) rfl (fun ls hl => ?_)
      refine lv_aload_n hx hb dL_law_453 rfl (lv_at hl 4 rfl) ?_
      refine lo_callMi ⟨hx, hb, hml, hown, hts⟩ (c_X9_thrown l D cI cZ cG cL am (Q := fun r => r = r5) hth) (cwV 0 hts (gk_gV ml_L_133 im_X9_thrown se_X9_thrown in_X9 co_X9_thrown) rfl rfl rfl (by decide +kernel) ⟨Nat.le_of_ble_eq_true rfl, Nat.le_of_ble_eq_true rfl⟩) (gk_recv hK.1 (mk_obj hW.2.1) rfl) hD hW hK hS rfl hl.1 (rest := []) rfl (lv_room (Nat.le_of_ble_eq_true rfl)) dL_law_454 ⟨by omega, by omega⟩ (fun r7 μ7 H locs hw7 hW hS => ?_)
      rw [hw7.1] at hW
      have hw7 := hw7.2
      refine lv_iload hx hb dL_law_457 (lv_at hl 1 rfl) ?_
      refine lv_icmp_eq (tgt := 464) hx hb dL_law_459 (by decide) (fun c459 => ?_) (fun c459 => ?_)
      · refine lv_iload hx hb dL_law_464 (lv_at hl 1 rfl) ?_
        refine lv_if_ne (tgt := 488) hx hb dL_law_466 (by decide) (fun c466 => ?_) (fun c466 => ?_)
        · refine lv_goto (tgt := 2753) hx hb dL_law_488 (by decide) ?_
          refine W.widen (k := k0 + 60) (n := n0 + 6000) (by omega) (by omega) ?_
          exact kN _ _ _ _ _ _ _ hI hW hS hd0 (lv_sub hl [2, 3, 4, 5, 6] rfl)
        · have ho := ho c466
          refine lv_aload_n hx hb dL_law_469 rfl (lv_at hl 5 rfl) ?_
          refine lv_iconst (v := 0) hx hb dL_law_470 (by decide) ?_
          refine lo_lald hx hb hK hW.2.2 dL_law_471 ?_
          refine lv_iload hx hb dL_law_472 (lv_at hl 0 rfl) ?_
          refine lv_if_eq (tgt := 481) hx hb dL_law_474 (by decide) (fun c474 => ?_) (fun c474 => ?_)
          · refine lv_lconst (v := 0) hx hb dL_law_481 (by decide) ?_
            refine lo_lcmp hx hb (ho.2 c474) dL_law_482 ?_
            refine lv_if_eq (tgt := 488) hx hb dL_law_483 (by decide) (fun c483 => ?_) (fun c483 => ?_)
            · refine lv_goto (tgt := 2753) hx hb dL_law_488 (by decide) ?_
              refine W.widen (k := k0 + 60) (n := n0 + 6000) (by omega) (by omega) ?_
              exact kN _ _ _ _ _ _ _ hI hW hS hd0 (lv_sub hl [2, 3, 4, 5, 6] rfl)
            · exact absurd rfl c483
          · refine lv_lconst (v := 1) hx hb dL_law_477 (by decide) ?_
            refine lv_goto (tgt := 482) hx hb dL_law_478 (by decide) ?_
            refine lo_lcmp hx hb (ho.1 c474) dL_law_482 ?_
            refine lv_if_eq (tgt := 488) hx hb dL_law_483 (by decide) (fun c483 => ?_) (fun c483 => ?_)
            · refine lv_goto (tgt := 2753) hx hb dL_law_488 (by decide) ?_
              refine W.widen (k := k0 + 60) (n := n0 + 6000) (by omega) (by omega) ?_
              exact kN _ _ _ _ _ _ _ hI hW hS hd0 (lv_sub hl [2, 3, 4, 5, 6] rfl)
            · exact absurd rfl c483
      · exact absurd hw7 c459
    · exact absurd c407 c440
  · refine lv_iconst (v := 1) hx hb dL_law_410 (by decide) ?_
    refine lv_goto (tgt := 415) hx hb dL_law_411 (by decide) ?_
    refine lv_aload_n hx hb dL_law_415 rfl (lv_at hl 3 rfl) ?_
    have hw := hH σ μ o hI ((xs (x4 + 1).toNatClampNeg)) ((xs (x4 + 2).toNatClampNeg)) (1) (Or.inr rfl)
    refine lo_callL ⟨hx, hb, hml, hown, hts⟩ (c_L_setRole l hfl D cI cZ cG cL ad q1 q2 q3 oa hw) (vx_cwSW 5 hts (gk_gS ml_L_144 st_L_setRole in_L co_L_setRole) rfl rfl rfl (by decide +kernel) ⟨Nat.le_of_ble_eq_true rfl, Nat.le_of_ble_eq_true rfl⟩) hD hW hK hY hN hS rfl hl.1 (rest := []) rfl (lv_room (Nat.le_of_ble_eq_true rfl)) dL_law_416 ⟨by omega, by omega⟩ (fun r5 σ5 o5 H locs hw hW hS => ?_)
    refine lv_istore (lv' := [(5, .int r5), (0, .ref b), (1, .ref (ad 0)), (2, .ref (am 38)), (3, .ref oa), (4, .int x4)]) hx hb dL_law_419 hl (by decide) rfl (fun ls hl => ?_)
    refine lv_aload_n hx hb dL_law_421 rfl (lv_at hl 3 rfl) ?_
    refine lv_aload_n hx hb dL_law_422 rfl (lv_at hl 1 rfl) ?_
    refine lv_iload hx hb dL_law_423 (lv_at hl 5 rfl) ?_
    refine lv_iconst (v := 1) hx hb dL_law_425 (by decide) ?_
    refine lv_iadd hx hb dL_law_426 ?_
    refine lo_xald hx hb hX hbl hS (hcd 1 (by decide)) dL_law_427 ?_
    refine lv_aload_n hx hb dL_law_428 rfl (lv_at hl 1 rfl) ?_
    refine lv_iload hx hb dL_law_429 (lv_at hl 5 rfl) ?_
    refine lv_iconst (v := 2) hx hb dL_law_431 (by decide) ?_
    refine lv_iadd hx hb dL_law_432 ?_
    refine lo_xald hx hb hX hbl hS (hcd 2 (by decide)) dL_law_433 ?_
    refine lv_aload_n hx hb dL_law_434 rfl (lv_at hl 1 rfl) ?_
    refine lv_iload hx hb dL_law_435 (lv_at hl 5 rfl) ?_
    refine lv_iconst (v := 3) hx hb dL_law_437 (by decide) ?_
    refine lv_iadd hx hb dL_law_438 ?_
    refine lo_xald hx hb hX hbl hS (hcd 3 (by decide)) dL_law_439 ?_
    refine lv_if_eq (tgt := 447) hx hb dL_law_440 (by decide) (fun c440 => ?_) (fun c440 => ?_)
    · exact absurd c440 c407
    · refine lv_iconst (v := 1) hx hb dL_law_443 (by decide) ?_
      refine lv_goto (tgt := 448) hx hb dL_law_444 (by decide) ?_
      refine lo_callMi ⟨hx, hb, hml, hown, hts⟩ (c_X9_setRole l D cI cZ cG cL am hw) (cwV 3 hts (gk_gV ml_L_147 im_X9_setRole se_X9_setRole in_X9 co_X9_setRole) rfl rfl rfl (by decide +kernel) ⟨Nat.le_of_ble_eq_true rfl, Nat.le_of_ble_eq_true rfl⟩) (gk_recv hK.1 (mk_obj hW.2.1) rfl) hD hW hK hS rfl hl.1 (rest := []) rfl (lv_room (Nat.le_of_ble_eq_true rfl)) dL_law_448 ⟨by omega, by omega⟩ (fun r6 μ6 H locs hw hW hS => ?_)
      obtain ⟨hth, ho, hI⟩ := hw
      refine lv_istore (lv' := [(6, .int r6), (5, .int r5), (0, .ref b), (1, .ref (ad 0)), (2, .ref (am 38)), (3, .ref oa), (4, .int x4)]) hx hb dL_law_451 hl (by decide) rfl (fun ls hl => ?_)
      refine lv_aload_n hx hb dL_law_453 rfl (lv_at hl 4 rfl) ?_
      refine lo_callMi ⟨hx, hb, hml, hown, hts⟩ (c_X9_thrown l D cI cZ cG cL am (Q := fun r => r = r5) hth) (cwV 0 hts (gk_gV ml_L_133 im_X9_thrown se_X9_thrown in_X9 co_X9_thrown) rfl rfl rfl (by decide +kernel) ⟨Nat.le_of_ble_eq_true rfl, Nat.le_of_ble_eq_true rfl⟩) (gk_recv hK.1 (mk_obj hW.2.1) rfl) hD hW hK hS rfl hl.1 (rest := []) rfl (lv_room (Nat.le_of_ble_eq_true rfl)) dL_law_454 ⟨by omega, by omega⟩ (fun r7 μ7 H locs hw7 hW hS => ?_)
      rw [hw7.1] at hW
      have hw7 := hw7.2
      refine lv_iload hx hb dL_law_457 (lv_at hl 1 rfl) ?_
      refine lv_icmp_eq (tgt := 464) hx hb dL_law_459 (by decide) (fun c459 => ?_) (fun c459 => ?_)
      · refine lv_iload hx hb dL_law_464 (lv_at hl 1 rfl) ?_
        refine lv_if_ne (tgt := 488) hx hb dL_law_466 (by decide) (fun c466 => ?_) (fun c466 => ?_)
        · refine lv_goto (tgt := 2753) hx hb dL_law_488 (by decide) ?_
          refine W.widen (k := k0 + 60) (n := n0 + 6000) (by omega) (by omega) ?_
          exact kN _ _ _ _ _ _ _ hI hW hS hd0 (lv_sub hl [2, 3, 4, 5, 6] rfl)
        · have ho := ho c466
          refine lv_aload_n hx hb dL_law_469 rfl (lv_at hl 5 rfl) ?_
          refine lv_iconst (v := 0) hx hb dL_law_470 (by decide) ?_
          refine lo_lald hx hb hK hW.2.2 dL_law_471 ?_
          refine lv_iload hx hb dL_law_472 (lv_at hl 0 rfl) ?_
          refine lv_if_eq (tgt := 481) hx hb dL_law_474 (by decide) (fun c474 => ?_) (fun c474 => ?_)
          · refine lv_lconst (v := 0) hx hb dL_law_481 (by decide) ?_
            refine lo_lcmp hx hb (ho.2 c474) dL_law_482 ?_
            refine lv_if_eq (tgt := 488) hx hb dL_law_483 (by decide) (fun c483 => ?_) (fun c483 => ?_)
            · refine lv_goto (tgt := 2753) hx hb dL_law_488 (by decide) ?_
              refine W.widen (k := k0 + 60) (n := n0 + 6000) (by omega) (by omega) ?_
              exact kN _ _ _ _ _ _ _ hI hW hS hd0 (lv_sub hl [2, 3, 4, 5, 6] rfl)
            · exact absurd rfl c483
          · refine lv_lconst (v := 1) hx hb dL_law_477 (by decide) ?_
            refine lv_goto (tgt := 482) hx hb dL_law_478 (by decide) ?_
            refine lo_lcmp hx hb (ho.1 c474) dL_law_482 ?_
            refine lv_if_eq (tgt := 488) hx hb dL_law_483 (by decide) (fun c483 => ?_) (fun c483 => ?_)
            · refine lv_goto (tgt := 2753) hx hb dL_law_488 (by decide) ?_
              refine W.widen (k := k0 + 60) (n := n0 + 6000) (by omega) (by omega) ?_
              exact kN _ _ _ _ _ _ _ hI hW hS hd0 (lv_sub hl [2, 3, 4, 5, 6] rfl)
            · exact absurd rfl c483
      · exact absurd hw7 c459
set_option maxHeartbeats 4000000 in
set_option maxRecDepth 100000 in
theorem lo_case_4 {p : Program} {l : Launch} {e : Env} {s : State} {m : MethodId} {below : List Frame} {meth : Method} {c : Code} {D : va_G} {cI cZ cG cL : ClassId} {ad am : Nat → Nat} {q1 q2 q3 oa b L : Nat} {xs : Nat → Int32} (C0 : lo_C p s m meth c l D cI cZ cG cL ad am q1 q2 q3 oa b L xs) {cs : List Choice} (hnb : nanBits ∈ cs) {I : gk_C → gk_C → Prop} {Q : State → Prop} {x4 : Int32} {k0 n0 : Nat} (hcd : lo_cd L x4) (hk : k0 + 60 ≤ room_1.cells) (hn : n0 + 6000 ≤ room_1.slots) (kN : lo_Next cs I p l e room_1 s m below meth c D cI cZ cL ad am oa b Q x4 (k0 + 60) (n0 + 6000)) (hH : ∀ (σ μ : gk_C) (o : Int64), I σ μ → ∀ (a0 : Int32) (a1 : Int32) (a2 : Int32), (a2 = 0 ∨ a2 = 1) → w_L_setHolds σ o a0 a1 a2 (fun k σ1 o1 => w_X9_setHolds μ a0 a1 a2 (fun r μ1 => μ1.2 0 = k ∧ (k = 0 → (¬ r = 0 → o1 = 1) ∧ (r = 0 → o1 = 0)) ∧ I σ1 μ1))) {σ μ : gk_C} {o : Int64} {H : Heap} {locs : List Loc} {d0 : Drawn} {ls : Array Slot} (hI : I σ μ) (hW : lo_W D cI cZ cL ad am oa σ μ o H) (hS : va_S (lo_A s.heap.size) s.heap H locs) (hd0 : s.drawn.sameBut d0 cs) (hl : lv_has ls 9 [(0, .ref b), (1, .ref (ad 0)), (2, .ref (am 38)), (3, .ref oa), (4, .int x4)]) : W p l e room_1 (s.setDrawn d0) m #[Value.ref b] below meth c H locs k0 n0 Q (F0 m 491 ls []) := by
  obtain ⟨hx, hb, hml, hown, hts0, hr, hlocks, hfl, hK0, hY0, hN0, hD, hX0, hbl⟩ := C0
  have hts := dr_words hts0 d0
  have hK := hK0.drawn d0
  have hY := hY0.drawn d0
  have hN : gk_NC (s.setDrawn d0) := hN0
  have hX : va_X b L xs (s.setDrawn d0) s.heap := hX0
  refine lv_aload_n hx hb dL_law_491 rfl (lv_at hl 1 rfl) ?_
  refine lv_aload_n hx hb dL_law_492 rfl (lv_at hl 0 rfl) ?_
  refine lv_iload hx hb dL_law_493 (lv_at hl 4 rfl) ?_
  refine lv_iconst (v := 1) hx hb dL_law_495 (by decide) ?_
  refine lv_iadd hx hb dL_law_496 ?_
  refine lo_xald hx hb hX hbl hS (hcd 1 (by decide)) dL_law_497 ?_
  refine lv_aload_n hx hb dL_law_498 rfl (lv_at hl 0 rfl) ?_
  refine lv_iload hx hb dL_law_499 (lv_at hl 4 rfl) ?_
  refine lv_iconst (v := 2) hx hb dL_law_501 (by decide) ?_
  refine lv_iadd hx hb dL_law_502 ?_
  refine lo_xald hx hb hX hbl hS (hcd 2 (by decide)) dL_law_503 ?_
  refine lv_aload_n hx hb dL_law_504 rfl (lv_at hl 0 rfl) ?_
  refine lv_iload hx hb dL_law_505 (lv_at hl 4 rfl) ?_
  refine lv_iconst (v := 3) hx hb dL_law_507 (by decide) ?_
  refine lv_iadd hx hb dL_law_508 ?_
  refine lo_xald hx hb hX hbl hS (hcd 3 (by decide)) dL_law_509 ?_
  refine lv_if_eq (tgt := 517) hx hb dL_law_510 (by decide) (fun c510 => ?_) (fun c510 => ?_)
  · refine lv_iconst (v := 0) hx hb dL_law_517 (by decide) ?_
    refine lv_aload_n hx hb dL_law_518 rfl (lv_at hl 3 rfl) ?_
    have hw := hH σ μ o hI ((xs (x4 + 1).toNatClampNeg)) ((xs (x4 + 2).toNatClampNeg)) (0) (Or.inl rfl)
    refine lo_callL ⟨hx, hb, hml, hown, hts⟩ (c_L_setHolds l hfl D cI cZ cG cL ad q1 q2 q3 oa hw) (vx_cwSW 5 hts (gk_gS ml_L_148 st_L_setHolds in_L co_L_setHolds) rfl rfl rfl (by decide +kernel) ⟨Nat.le_of_ble_eq_true rfl, Nat.le_of_ble_eq_true rfl⟩) hD hW hK hY hN hS rfl hl.1 (rest := []) rfl (lv_room (Nat.le_of_ble_eq_true rfl)) dL_law_519 ⟨by omega, by omega⟩ (fun r5 σ5 o5 H locs hw hW hS => ?_)
    refine lv_istore (lv' := [(5, .int r5), (0, .ref b), (1, .ref (ad 0)), (2, .ref (am 38)), (3, .ref oa), (4, .int x4)]) hx hb dL_law_522 hl (by decide) rfl (fun ls hl => ?_)
    refine lv_aload_n hx hb dL_law_524 rfl (lv_at hl 3 rfl) ?_
    refine lv_aload_n hx hb dL_law_525 rfl (lv_at hl 1 rfl) ?_
    refine lv_iload hx hb dL_law_526 (lv_at hl 5 rfl) ?_
    refine lv_iconst (v := 1) hx hb dL_law_528 (by decide) ?_
    refine lv_iadd hx hb dL_law_529 ?_
    refine lo_xald hx hb hX hbl hS (hcd 1 (by decide)) dL_law_530 ?_
    refine lv_aload_n hx hb dL_law_531 rfl (lv_at hl 1 rfl) ?_
    refine lv_iload hx hb dL_law_532 (lv_at hl 5 rfl) ?_
    refine lv_iconst (v := 2) hx hb dL_law_534 (by decide) ?_
    refine lv_iadd hx hb dL_law_535 ?_
    refine lo_xald hx hb hX hbl hS (hcd 2 (by decide)) dL_law_536 ?_
    refine lv_aload_n hx hb dL_law_537 rfl (lv_at hl 1 rfl) ?_
    refine lv_iload hx hb dL_law_538 (lv_at hl 5 rfl) ?_
    refine lv_iconst (v := 3) hx hb dL_law_540 (by decide) ?_
    refine lv_iadd hx hb dL_law_541 ?_
    refine lo_xald hx hb hX hbl hS (hcd 3 (by decide)) dL_law_542 ?_
    refine lv_if_eq (tgt := 550) hx hb dL_law_543 (by decide) (fun c543 => ?_) (fun c543 => ?_)
    · refine lv_iconst (v := 0) hx hb dL_law_550 (by decide) ?_
      refine lo_callMi ⟨hx, hb, hml, hown, hts⟩ (c_X9_setHolds l D cI cZ cG cL am hw) (cwV 3 hts (gk_gV ml_L_150 im_X9_setHolds se_X9_setHolds in_X9 co_X9_setHolds) rfl rfl rfl (by decide +kernel) ⟨Nat.le_of_ble_eq_true rfl, Nat.le_of_ble_eq_true rfl⟩) (gk_recv hK.1 (mk_obj hW.2.1) rfl) hD hW hK hS rfl hl.1 (rest := []) rfl (lv_room (Nat.le_of_ble_eq_true rfl)) dL_law_551 ⟨by omega, by omega⟩ (fun r6 μ6 H locs hw hW hS => ?_)
      obtain ⟨hth, ho, hI⟩ := hw
      refine lv_istore (lv' := [(6, .int r6), (5, .int r5), (0, .ref b), (1, .ref (ad 0)), (2, .ref (am 38)), (3, .ref oa), (4, .int x4)]) hx hb dL_law_554 hl (by decide) rfl (fun ls hl => ?_)
      refine lv_aload_n hx hb dL_law_556 rfl (lv_at hl 4 rfl) ?_
      refine lo_callMi ⟨hx, hb, hml, hown, hts⟩ (c_X9_thrown l D cI cZ cG cL am (Q := fun r => r = r5) hth) (cwV 0 hts (gk_gV ml_L_133 im_X9_thrown se_X9_thrown in_X9 co_X9_thrown) rfl rfl rfl (by decide +kernel) ⟨Nat.le_of_ble_eq_true rfl, Nat.le_of_ble_eq_true rfl⟩) (gk_recv hK.1 (mk_obj hW.2.1) rfl) hD hW hK hS rfl hl.1 (rest := []) rfl (lv_room (Nat.le_of_ble_eq_true rfl)) dL_law_557 ⟨by omega, by omega⟩ (fun r7 μ7 H locs hw7 hW hS => ?_)
      rw [hw7.1] at hW
      have hw7 := hw7.2
      refine lv_iload hx hb dL_law_560 (lv_at hl 1 rfl) ?_
      refine lv_icmp_eq (tgt := 567) hx hb dL_law_562 (by decide) (fun c562 => ?_) (fun c562 => ?_)
      · refine lv_iload hx hb dL_law_567 (lv_at hl 1 rfl) ?_
        refine lv_if_ne (tgt := 591) hx hb dL_law_569 (by decide) (fun c569 => ?_) (fun c569 => ?_)
        · refine lv_goto (tgt := 2753) hx hb dL_law_591 (by decide) ?_
          refine W.widen (k := k0 + 60) (n := n0 + 6000) (by omega) (by omega) ?_
          exact kN _ _ _ _ _ _ _ hI hW hS hd0 (lv_sub hl [2, 3, 4, 5, 6] rfl)
        · have ho := ho c569
          refine lv_aload_n hx hb dL_law_572 rfl (lv_at hl 5 rfl) ?_
          refine lv_iconst (v := 0) hx hb dL_law_573 (by decide) ?_
          refine lo_lald hx hb hK hW.2.2 dL_law_574 ?_
          refine lv_iload hx hb dL_law_575 (lv_at hl 0 rfl) ?_
          refine lv_if_eq (tgt := 584) hx hb dL_law_577 (by decide) (fun c577 => ?_) (fun c577 => ?_)
          · refine lv_lconst (v := 0) hx hb dL_law_584 (by decide) ?_
            refine lo_lcmp hx hb (ho.2 c577) dL_law_585 ?_
            refine lv_if_eq (tgt := 591) hx hb dL_law_586 (by decide) (fun c586 => ?_) (fun c586 => ?_)
            · refine lv_goto (tgt := 2753) hx hb dL_law_591 (by decide) ?_
              refine W.widen (k := k0 + 60) (n := n0 + 6000) (by omega) (by omega) ?_
              exact kN _ _ _ _ _ _ _ hI hW hS hd0 (lv_sub hl [2, 3, 4, 5, 6] rfl)
            · exact absurd rfl c586
          · refine lv_lconst (v := 1) hx hb dL_law_580 (by decide) ?_
            refine lv_goto (tgt := 585) hx hb dL_law_581 (by decide) ?_
            refine lo_lcmp hx hb (ho.1 c577) dL_law_585 ?_
            refine lv_if_eq (tgt := 591) hx hb dL_law_586 (by decide) (fun c586 => ?_) (fun c586 => ?_)
            · refine lv_goto (tgt := 2753) hx hb dL_law_591 (by decide) ?_
              refine W.widen (k := k0 + 60) (n := n0 + 6000) (by omega) (by omega) ?_
              exact kN _ _ _ _ _ _ _ hI hW hS hd0 (lv_sub hl [2, 3, 4, 5, 6] rfl)
            · exact absurd rfl c586
      · exact absurd hw7 c562
    · exact absurd c510 c543
  · refine lv_iconst (v := 1) hx hb dL_law_513 (by decide) ?_
    refine lv_goto (tgt := 518) hx hb dL_law_514 (by decide) ?_
    refine lv_aload_n hx hb dL_law_518 rfl (lv_at hl 3 rfl) ?_
    have hw := hH σ μ o hI ((xs (x4 + 1).toNatClampNeg)) ((xs (x4 + 2).toNatClampNeg)) (1) (Or.inr rfl)
    refine lo_callL ⟨hx, hb, hml, hown, hts⟩ (c_L_setHolds l hfl D cI cZ cG cL ad q1 q2 q3 oa hw) (vx_cwSW 5 hts (gk_gS ml_L_148 st_L_setHolds in_L co_L_setHolds) rfl rfl rfl (by decide +kernel) ⟨Nat.le_of_ble_eq_true rfl, Nat.le_of_ble_eq_true rfl⟩) hD hW hK hY hN hS rfl hl.1 (rest := []) rfl (lv_room (Nat.le_of_ble_eq_true rfl)) dL_law_519 ⟨by omega, by omega⟩ (fun r5 σ5 o5 H locs hw hW hS => ?_)
    refine lv_istore (lv' := [(5, .int r5), (0, .ref b), (1, .ref (ad 0)), (2, .ref (am 38)), (3, .ref oa), (4, .int x4)]) hx hb dL_law_522 hl (by decide) rfl (fun ls hl => ?_)
    refine lv_aload_n hx hb dL_law_524 rfl (lv_at hl 3 rfl) ?_
    refine lv_aload_n hx hb dL_law_525 rfl (lv_at hl 1 rfl) ?_
    refine lv_iload hx hb dL_law_526 (lv_at hl 5 rfl) ?_
    refine lv_iconst (v := 1) hx hb dL_law_528 (by decide) ?_
    refine lv_iadd hx hb dL_law_529 ?_
    refine lo_xald hx hb hX hbl hS (hcd 1 (by decide)) dL_law_530 ?_
    refine lv_aload_n hx hb dL_law_531 rfl (lv_at hl 1 rfl) ?_
    refine lv_iload hx hb dL_law_532 (lv_at hl 5 rfl) ?_
    refine lv_iconst (v := 2) hx hb dL_law_534 (by decide) ?_
    refine lv_iadd hx hb dL_law_535 ?_
    refine lo_xald hx hb hX hbl hS (hcd 2 (by decide)) dL_law_536 ?_
    refine lv_aload_n hx hb dL_law_537 rfl (lv_at hl 1 rfl) ?_
    refine lv_iload hx hb dL_law_538 (lv_at hl 5 rfl) ?_
    refine lv_iconst (v := 3) hx hb dL_law_540 (by decide) ?_
    refine lv_iadd hx hb dL_law_541 ?_
    refine lo_xald hx hb hX hbl hS (hcd 3 (by decide)) dL_law_542 ?_
    refine lv_if_eq (tgt := 550) hx hb dL_law_543 (by decide) (fun c543 => ?_) (fun c543 => ?_)
    · exact absurd c543 c510
    · refine lv_iconst (v := 1) hx hb dL_law_546 (by decide) ?_
      refine lv_goto (tgt := 551) hx hb dL_law_547 (by decide) ?_
      refine lo_callMi ⟨hx, hb, hml, hown, hts⟩ (c_X9_setHolds l D cI cZ cG cL am hw) (cwV 3 hts (gk_gV ml_L_150 im_X9_setHolds se_X9_setHolds in_X9 co_X9_setHolds) rfl rfl rfl (by decide +kernel) ⟨Nat.le_of_ble_eq_true rfl, Nat.le_of_ble_eq_true rfl⟩) (gk_recv hK.1 (mk_obj hW.2.1) rfl) hD hW hK hS rfl hl.1 (rest := []) rfl (lv_room (Nat.le_of_ble_eq_true rfl)) dL_law_551 ⟨by omega, by omega⟩ (fun r6 μ6 H locs hw hW hS => ?_)
      obtain ⟨hth, ho, hI⟩ := hw
      refine lv_istore (lv' := [(6, .int r6), (5, .int r5), (0, .ref b), (1, .ref (ad 0)), (2, .ref (am 38)), (3, .ref oa), (4, .int x4)]) hx hb dL_law_554 hl (by decide) rfl (fun ls hl => ?_)
      refine lv_aload_n hx hb dL_law_556 rfl (lv_at hl 4 rfl) ?_
      refine lo_callMi ⟨hx, hb, hml, hown, hts⟩ (c_X9_thrown l D cI cZ cG cL am (Q := fun r => r = r5) hth) (cwV 0 hts (gk_gV ml_L_133 im_X9_thrown se_X9_thrown in_X9 co_X9_thrown) rfl rfl rfl (by decide +kernel) ⟨Nat.le_of_ble_eq_true rfl, Nat.le_of_ble_eq_true rfl⟩) (gk_recv hK.1 (mk_obj hW.2.1) rfl) hD hW hK hS rfl hl.1 (rest := []) rfl (lv_room (Nat.le_of_ble_eq_true rfl)) dL_law_557 ⟨by omega, by omega⟩ (fun r7 μ7 H locs hw7 hW hS => ?_)
      rw [hw7.1] at hW
      have hw7 := hw7.2
      refine lv_iload hx hb dL_law_560 (lv_at hl 1 rfl) ?_
      refine lv_icmp_eq (tgt := 567) hx hb dL_law_562 (by decide) (fun c562 => ?_) (fun c562 => ?_)
      · refine lv_iload hx hb dL_law_567 (lv_at hl 1 rfl) ?_
        refine lv_if_ne (tgt := 591) hx hb dL_law_569 (by decide) (fun c569 => ?_) (fun c569 => ?_)
        · refine lv_goto (tgt := 2753) hx hb dL_law_591 (by decide) ?_
          refine W.widen (k := k0 + 60) (n := n0 + 6000) (by omega) (by omega) ?_
          exact kN _ _ _ _ _ _ _ hI hW hS hd0 (lv_sub hl [2, 3, 4, 5, 6] rfl)
        · have ho := ho c569
          refine lv_aload_n hx hb dL_law_572 rfl (lv_at hl 5 rfl) ?_
          refine lv_iconst (v := 0) hx hb dL_law_573 (by decide) ?_
          refine lo_lald hx hb hK hW.2.2 dL_law_574 ?_
          refine lv_iload hx hb dL_law_575 (lv_at hl 0 rfl) ?_
          refine lv_if_eq (tgt := 584) hx hb dL_law_577 (by decide) (fun c577 => ?_) (fun c577 => ?_)
          · refine lv_lconst (v := 0) hx hb dL_law_584 (by decide) ?_
            refine lo_lcmp hx hb (ho.2 c577) dL_law_585 ?_
            refine lv_if_eq (tgt := 591) hx hb dL_law_586 (by decide) (fun c586 => ?_) (fun c586 => ?_)
            · refine lv_goto (tgt := 2753) hx hb dL_law_591 (by decide) ?_
              refine W.widen (k := k0 + 60) (n := n0 + 6000) (by omega) (by omega) ?_
              exact kN _ _ _ _ _ _ _ hI hW hS hd0 (lv_sub hl [2, 3, 4, 5, 6] rfl)
            · exact absurd rfl c586
          · refine lv_lconst (v := 1) hx hb dL_law_580 (by decide) ?_
            refine lv_goto (tgt := 585) hx hb dL_law_581 (by decide) ?_
            refine lo_lcmp hx hb (ho.1 c577) dL_law_585 ?_
            refine lv_if_eq (tgt := 591) hx hb dL_law_586 (by decide) (fun c586 => ?_) (fun c586 => ?_)
            · refine lv_goto (tgt := 2753) hx hb dL_law_591 (by decide) ?_
              refine W.widen (k := k0 + 60) (n := n0 + 6000) (by omega) (by omega) ?_
              exact kN _ _ _ _ _ _ _ hI hW hS hd0 (lv_sub hl [2, 3, 4, 5, 6] rfl)
            · exact absurd rfl c586
      · exact absurd hw7 c562
set_option maxHeartbeats 4000000 in
set_option maxRecDepth 100000 in
theorem lo_case_5 {p : Program} {l : Launch} {e : Env} {s : State} {m : MethodId} {below : List Frame} {meth : Method} {c : Code} {D : va_G} {cI cZ cG cL : ClassId} {ad am : Nat → Nat} {q1 q2 q3 oa b L : Nat} {xs : Nat → Int32} (C0 : lo_C p s m meth c l D cI cZ cG cL ad am q1 q2 q3 oa b L xs) {cs : List Choice} (hnb : nanBits ∈ cs) {I : gk_C → gk_C → Prop} {Q : State → Prop} {x4 : Int32} {k0 n0 : Nat} (hcd : lo_cd L x4) (hk : k0 + 60 ≤ room_1.cells) (hn : n0 + 6000 ≤ room_1.slots) (kN : lo_Next cs I p l e room_1 s m below meth c D cI cZ cL ad am oa b Q x4 (k0 + 60) (n0 + 6000)) (hH : ∀ (σ μ : gk_C) (o : Int64), I σ μ → ∀ (a0 : Int32) (a1 : Int32), w_L_setApart σ o a0 a1 (fun k σ1 o1 => w_X9_setApart μ a0 a1 (fun r μ1 => μ1.2 0 = k ∧ (k = 0 → o1 = r.toInt64) ∧ I σ1 μ1))) {σ μ : gk_C} {o : Int64} {H : Heap} {locs : List Loc} {d0 : Drawn} {ls : Array Slot} (hI : I σ μ) (hW : lo_W D cI cZ cL ad am oa σ μ o H) (hS : va_S (lo_A s.heap.size) s.heap H locs) (hd0 : s.drawn.sameBut d0 cs) (hl : lv_has ls 9 [(0, .ref b), (1, .ref (ad 0)), (2, .ref (am 38)), (3, .ref oa), (4, .int x4)]) : W p l e room_1 (s.setDrawn d0) m #[Value.ref b] below meth c H locs k0 n0 Q (F0 m 594 ls []) := by
  obtain ⟨hx, hb, hml, hown, hts0, hr, hlocks, hfl, hK0, hY0, hN0, hD, hX0, hbl⟩ := C0
  have hts := dr_words hts0 d0
  have hK := hK0.drawn d0
  have hY := hY0.drawn d0
  have hN : gk_NC (s.setDrawn d0) := hN0
  have hX : va_X b L xs (s.setDrawn d0) s.heap := hX0
  refine lv_aload_n hx hb dL_law_594 rfl (lv_at hl 1 rfl) ?_
  refine lv_aload_n hx hb dL_law_595 rfl (lv_at hl 0 rfl) ?_
  refine lv_iload hx hb dL_law_596 (lv_at hl 4 rfl) ?_
  refine lv_iconst (v := 1) hx hb dL_law_598 (by decide) ?_
  refine lv_iadd hx hb dL_law_599 ?_
  refine lo_xald hx hb hX hbl hS (hcd 1 (by decide)) dL_law_600 ?_
  refine lv_aload_n hx hb dL_law_601 rfl (lv_at hl 0 rfl) ?_
  refine lv_iload hx hb dL_law_602 (lv_at hl 4 rfl) ?_
  refine lv_iconst (v := 2) hx hb dL_law_604 (by decide) ?_
  refine lv_iadd hx hb dL_law_605 ?_
  refine lo_xald hx hb hX hbl hS (hcd 2 (by decide)) dL_law_606 ?_
  refine lv_aload_n hx hb dL_law_607 rfl (lv_at hl 3 rfl) ?_
  have hw := hH σ μ o hI ((xs (x4 + 1).toNatClampNeg)) ((xs (x4 + 2).toNatClampNeg))
  refine lo_callL ⟨hx, hb, hml, hown, hts⟩ (c_L_setApart l hfl D cI cZ cG cL ad q1 q2 q3 oa hw) (vx_cwSW 4 hts (gk_gS ml_L_151 st_L_setApart in_L co_L_setApart) rfl rfl rfl (by decide +kernel) ⟨Nat.le_of_ble_eq_true rfl, Nat.le_of_ble_eq_true rfl⟩) hD hW hK hY hN hS rfl hl.1 (rest := []) rfl (lv_room (Nat.le_of_ble_eq_true rfl)) dL_law_608 ⟨by omega, by omega⟩ (fun r5 σ5 o5 H locs hw hW hS => ?_)
  refine lv_istore (lv' := [(5, .int r5), (0, .ref b), (1, .ref (ad 0)), (2, .ref (am 38)), (3, .ref oa), (4, .int x4)]) hx hb dL_law_611 hl (by decide) rfl (fun ls hl => ?_)
  refine lv_aload_n hx hb dL_law_613 rfl (lv_at hl 3 rfl) ?_
  refine lv_aload_n hx hb dL_law_614 rfl (lv_at hl 1 rfl) ?_
  refine lv_iload hx hb dL_law_615 (lv_at hl 5 rfl) ?_
  refine lv_iconst (v := 1) hx hb dL_law_617 (by decide) ?_
  refine lv_iadd hx hb dL_law_618 ?_
  refine lo_xald hx hb hX hbl hS (hcd 1 (by decide)) dL_law_619 ?_
  refine lv_aload_n hx hb dL_law_620 rfl (lv_at hl 1 rfl) ?_
  refine lv_iload hx hb dL_law_621 (lv_at hl 5 rfl) ?_
  refine lv_iconst (v := 2) hx hb dL_law_623 (by decide) ?_
  refine lv_iadd hx hb dL_law_624 ?_
  refine lo_xald hx hb hX hbl hS (hcd 2 (by decide)) dL_law_625 ?_
  refine lo_callMi ⟨hx, hb, hml, hown, hts⟩ (c_X9_setApart l D cI cZ cG cL am hw) (cwV 2 hts (gk_gV ml_L_153 im_X9_setApart se_X9_setApart in_X9 co_X9_setApart) rfl rfl rfl (by decide +kernel) ⟨Nat.le_of_ble_eq_true rfl, Nat.le_of_ble_eq_true rfl⟩) (gk_recv hK.1 (mk_obj hW.2.1) rfl) hD hW hK hS rfl hl.1 (rest := []) rfl (lv_room (Nat.le_of_ble_eq_true rfl)) dL_law_626 ⟨by omega, by omega⟩ (fun r6 μ6 H locs hw hW hS => ?_)
  obtain ⟨hth, ho, hI⟩ := hw
  refine lv_istore (lv' := [(6, .int r6), (5, .int r5), (0, .ref b), (1, .ref (ad 0)), (2, .ref (am 38)), (3, .ref oa), (4, .int x4)]) hx hb dL_law_629 hl (by decide) rfl (fun ls hl => ?_)
  refine lv_aload_n hx hb dL_law_631 rfl (lv_at hl 4 rfl) ?_
  refine lo_callMi ⟨hx, hb, hml, hown, hts⟩ (c_X9_thrown l D cI cZ cG cL am (Q := fun r => r = r5) hth) (cwV 0 hts (gk_gV ml_L_133 im_X9_thrown se_X9_thrown in_X9 co_X9_thrown) rfl rfl rfl (by decide +kernel) ⟨Nat.le_of_ble_eq_true rfl, Nat.le_of_ble_eq_true rfl⟩) (gk_recv hK.1 (mk_obj hW.2.1) rfl) hD hW hK hS rfl hl.1 (rest := []) rfl (lv_room (Nat.le_of_ble_eq_true rfl)) dL_law_632 ⟨by omega, by omega⟩ (fun r7 μ7 H locs hw7 hW hS => ?_)
  rw [hw7.1] at hW
  have hw7 := hw7.2
  refine lv_iload hx hb dL_law_635 (lv_at hl 1 rfl) ?_
  refine lv_icmp_eq (tgt := 642) hx hb dL_law_637 (by decide) (fun c637 => ?_) (fun c637 => ?_)
  · refine lv_iload hx hb dL_law_642 (lv_at hl 1 rfl) ?_
    refine lv_if_ne (tgt := 659) hx hb dL_law_644 (by decide) (fun c644 => ?_) (fun c644 => ?_)
    · refine lv_goto (tgt := 2753) hx hb dL_law_659 (by decide) ?_
      refine W.widen (k := k0 + 60) (n := n0 + 6000) (by omega) (by omega) ?_
      exact kN _ _ _ _ _ _ _ hI hW hS hd0 (lv_sub hl [2, 3, 4, 5, 6] rfl)
    · have ho := ho c644
      refine lv_aload_n hx hb dL_law_647 rfl (lv_at hl 5 rfl) ?_
      refine lv_iconst (v := 0) hx hb dL_law_648 (by decide) ?_
      refine lo_lald hx hb hK hW.2.2 dL_law_649 ?_
      refine lv_iload hx hb dL_law_650 (lv_at hl 0 rfl) ?_
      refine lv_i2l (v := r6.toInt64) hx hb dL_law_652 rfl ?_
      refine lo_lcmp hx hb (ho) dL_law_653 ?_
      refine lv_if_eq (tgt := 659) hx hb dL_law_654 (by decide) (fun c654 => ?_) (fun c654 => ?_)
      · refine lv_goto (tgt := 2753) hx hb dL_law_659 (by decide) ?_
        refine W.widen (k := k0 + 60) (n := n0 + 6000) (by omega) (by omega) ?_
        exact kN _ _ _ _ _ _ _ hI hW hS hd0 (lv_sub hl [2, 3, 4, 5, 6] rfl)
      · exact absurd rfl c654
  · exact absurd hw7 c637
set_option maxHeartbeats 4000000 in
set_option maxRecDepth 100000 in
theorem lo_case_6 {p : Program} {l : Launch} {e : Env} {s : State} {m : MethodId} {below : List Frame} {meth : Method} {c : Code} {D : va_G} {cI cZ cG cL : ClassId} {ad am : Nat → Nat} {q1 q2 q3 oa b L : Nat} {xs : Nat → Int32} (C0 : lo_C p s m meth c l D cI cZ cG cL ad am q1 q2 q3 oa b L xs) {cs : List Choice} (hnb : nanBits ∈ cs) {I : gk_C → gk_C → Prop} {Q : State → Prop} {x4 : Int32} {k0 n0 : Nat} (hcd : lo_cd L x4) (hk : k0 + 60 ≤ room_1.cells) (hn : n0 + 6000 ≤ room_1.slots) (kN : lo_Next cs I p l e room_1 s m below meth c D cI cZ cL ad am oa b Q x4 (k0 + 60) (n0 + 6000)) (hH : ∀ (σ μ : gk_C) (o : Int64), I σ μ → ∀ (a0 : Int32) (a1 : Int32) (a2 : Int32), w_L_setUser σ o a0 a1 a2 (fun k σ1 o1 => w_X9_setUser μ a0 a1 a2 (fun r μ1 => μ1.2 0 = k ∧ (k = 0 → o1 = r.toInt64) ∧ I σ1 μ1))) {σ μ : gk_C} {o : Int64} {H : Heap} {locs : List Loc} {d0 : Drawn} {ls : Array Slot} (hI : I σ μ) (hW : lo_W D cI cZ cL ad am oa σ μ o H) (hS : va_S (lo_A s.heap.size) s.heap H locs) (hd0 : s.drawn.sameBut d0 cs) (hl : lv_has ls 9 [(0, .ref b), (1, .ref (ad 0)), (2, .ref (am 38)), (3, .ref oa), (4, .int x4)]) : W p l e room_1 (s.setDrawn d0) m #[Value.ref b] below meth c H locs k0 n0 Q (F0 m 662 ls []) := by
  obtain ⟨hx, hb, hml, hown, hts0, hr, hlocks, hfl, hK0, hY0, hN0, hD, hX0, hbl⟩ := C0
  have hts := dr_words hts0 d0
  have hK := hK0.drawn d0
  have hY := hY0.drawn d0
  have hN : gk_NC (s.setDrawn d0) := hN0
  have hX : va_X b L xs (s.setDrawn d0) s.heap := hX0
  refine lv_aload_n hx hb dL_law_662 rfl (lv_at hl 1 rfl) ?_
  refine lv_aload_n hx hb dL_law_663 rfl (lv_at hl 0 rfl) ?_
  refine lv_iload hx hb dL_law_664 (lv_at hl 4 rfl) ?_
  refine lv_iconst (v := 1) hx hb dL_law_666 (by decide) ?_
  refine lv_iadd hx hb dL_law_667 ?_
  refine lo_xald hx hb hX hbl hS (hcd 1 (by decide)) dL_law_668 ?_
  refine lv_aload_n hx hb dL_law_669 rfl (lv_at hl 0 rfl) ?_
  refine lv_iload hx hb dL_law_670 (lv_at hl 4 rfl) ?_
  refine lv_iconst (v := 2) hx hb dL_law_672 (by decide) ?_
  refine lv_iadd hx hb dL_law_673 ?_
  refine lo_xald hx hb hX hbl hS (hcd 2 (by decide)) dL_law_674 ?_
  refine lv_aload_n hx hb dL_law_675 rfl (lv_at hl 0 rfl) ?_
  refine lv_iload hx hb dL_law_676 (lv_at hl 4 rfl) ?_
  refine lv_iconst (v := 3) hx hb dL_law_678 (by decide) ?_
  refine lv_iadd hx hb dL_law_679 ?_
  refine lo_xald hx hb hX hbl hS (hcd 3 (by decide)) dL_law_680 ?_
  refine lv_aload_n hx hb dL_law_681 rfl (lv_at hl 3 rfl) ?_
  have hw := hH σ μ o hI ((xs (x4 + 1).toNatClampNeg)) ((xs (x4 + 2).toNatClampNeg)) ((xs (x4 + 3).toNatClampNeg))
  refine lo_callL ⟨hx, hb, hml, hown, hts⟩ (c_L_setUser l hfl D cI cZ cG cL ad q1 q2 q3 oa hw) (vx_cwSW 5 hts (gk_gS ml_L_154 st_L_setUser in_L co_L_setUser) rfl rfl rfl (by decide +kernel) ⟨Nat.le_of_ble_eq_true rfl, Nat.le_of_ble_eq_true rfl⟩) hD hW hK hY hN hS rfl hl.1 (rest := []) rfl (lv_room (Nat.le_of_ble_eq_true rfl)) dL_law_682 ⟨by omega, by omega⟩ (fun r5 σ5 o5 H locs hw hW hS => ?_)
  refine lv_istore (lv' := [(5, .int r5), (0, .ref b), (1, .ref (ad 0)), (2, .ref (am 38)), (3, .ref oa), (4, .int x4)]) hx hb dL_law_685 hl (by decide) rfl (fun ls hl => ?_)
  refine lv_aload_n hx hb dL_law_687 rfl (lv_at hl 3 rfl) ?_
  refine lv_aload_n hx hb dL_law_688 rfl (lv_at hl 1 rfl) ?_
  refine lv_iload hx hb dL_law_689 (lv_at hl 5 rfl) ?_
  refine lv_iconst (v := 1) hx hb dL_law_691 (by decide) ?_
  refine lv_iadd hx hb dL_law_692 ?_
  refine lo_xald hx hb hX hbl hS (hcd 1 (by decide)) dL_law_693 ?_
  refine lv_aload_n hx hb dL_law_694 rfl (lv_at hl 1 rfl) ?_
  refine lv_iload hx hb dL_law_695 (lv_at hl 5 rfl) ?_
  refine lv_iconst (v := 2) hx hb dL_law_697 (by decide) ?_
  refine lv_iadd hx hb dL_law_698 ?_
  refine lo_xald hx hb hX hbl hS (hcd 2 (by decide)) dL_law_699 ?_
  refine lv_aload_n hx hb dL_law_700 rfl (lv_at hl 1 rfl) ?_
  refine lv_iload hx hb dL_law_701 (lv_at hl 5 rfl) ?_
  refine lv_iconst (v := 3) hx hb dL_law_703 (by decide) ?_
  refine lv_iadd hx hb dL_law_704 ?_
  refine lo_xald hx hb hX hbl hS (hcd 3 (by decide)) dL_law_705 ?_
  refine lo_callMi ⟨hx, hb, hml, hown, hts⟩ (c_X9_setUser l D cI cZ cG cL am hw) (cwV 3 hts (gk_gV ml_L_157 im_X9_setUser se_X9_setUser in_X9 co_X9_setUser) rfl rfl rfl (by decide +kernel) ⟨Nat.le_of_ble_eq_true rfl, Nat.le_of_ble_eq_true rfl⟩) (gk_recv hK.1 (mk_obj hW.2.1) rfl) hD hW hK hS rfl hl.1 (rest := []) rfl (lv_room (Nat.le_of_ble_eq_true rfl)) dL_law_706 ⟨by omega, by omega⟩ (fun r6 μ6 H locs hw hW hS => ?_)
  obtain ⟨hth, ho, hI⟩ := hw
  refine lv_istore (lv' := [(6, .int r6), (5, .int r5), (0, .ref b), (1, .ref (ad 0)), (2, .ref (am 38)), (3, .ref oa), (4, .int x4)]) hx hb dL_law_709 hl (by decide) rfl (fun ls hl => ?_)
  refine lv_aload_n hx hb dL_law_711 rfl (lv_at hl 4 rfl) ?_
  refine lo_callMi ⟨hx, hb, hml, hown, hts⟩ (c_X9_thrown l D cI cZ cG cL am (Q := fun r => r = r5) hth) (cwV 0 hts (gk_gV ml_L_133 im_X9_thrown se_X9_thrown in_X9 co_X9_thrown) rfl rfl rfl (by decide +kernel) ⟨Nat.le_of_ble_eq_true rfl, Nat.le_of_ble_eq_true rfl⟩) (gk_recv hK.1 (mk_obj hW.2.1) rfl) hD hW hK hS rfl hl.1 (rest := []) rfl (lv_room (Nat.le_of_ble_eq_true rfl)) dL_law_712 ⟨by omega, by omega⟩ (fun r7 μ7 H locs hw7 hW hS => ?_)
  rw [hw7.1] at hW
  have hw7 := hw7.2
  refine lv_iload hx hb dL_law_715 (lv_at hl 1 rfl) ?_
  refine lv_icmp_eq (tgt := 722) hx hb dL_law_717 (by decide) (fun c717 => ?_) (fun c717 => ?_)
  · refine lv_iload hx hb dL_law_722 (lv_at hl 1 rfl) ?_
    refine lv_if_ne (tgt := 739) hx hb dL_law_724 (by decide) (fun c724 => ?_) (fun c724 => ?_)
    · refine lv_goto (tgt := 2753) hx hb dL_law_739 (by decide) ?_
      refine W.widen (k := k0 + 60) (n := n0 + 6000) (by omega) (by omega) ?_
      exact kN _ _ _ _ _ _ _ hI hW hS hd0 (lv_sub hl [2, 3, 4, 5, 6] rfl)
    · have ho := ho c724
      refine lv_aload_n hx hb dL_law_727 rfl (lv_at hl 5 rfl) ?_
      refine lv_iconst (v := 0) hx hb dL_law_728 (by decide) ?_
      refine lo_lald hx hb hK hW.2.2 dL_law_729 ?_
      refine lv_iload hx hb dL_law_730 (lv_at hl 0 rfl) ?_
      refine lv_i2l (v := r6.toInt64) hx hb dL_law_732 rfl ?_
      refine lo_lcmp hx hb (ho) dL_law_733 ?_
      refine lv_if_eq (tgt := 739) hx hb dL_law_734 (by decide) (fun c734 => ?_) (fun c734 => ?_)
      · refine lv_goto (tgt := 2753) hx hb dL_law_739 (by decide) ?_
        refine W.widen (k := k0 + 60) (n := n0 + 6000) (by omega) (by omega) ?_
        exact kN _ _ _ _ _ _ _ hI hW hS hd0 (lv_sub hl [2, 3, 4, 5, 6] rfl)
      · exact absurd rfl c734
  · exact absurd hw7 c717
set_option maxHeartbeats 4000000 in
set_option maxRecDepth 100000 in
theorem lo_case_7 {p : Program} {l : Launch} {e : Env} {s : State} {m : MethodId} {below : List Frame} {meth : Method} {c : Code} {D : va_G} {cI cZ cG cL : ClassId} {ad am : Nat → Nat} {q1 q2 q3 oa b L : Nat} {xs : Nat → Int32} (C0 : lo_C p s m meth c l D cI cZ cG cL ad am q1 q2 q3 oa b L xs) {cs : List Choice} (hnb : nanBits ∈ cs) {I : gk_C → gk_C → Prop} {Q : State → Prop} {x4 : Int32} {k0 n0 : Nat} (hcd : lo_cd L x4) (hk : k0 + 60 ≤ room_1.cells) (hn : n0 + 6000 ≤ room_1.slots) (kN : lo_Next cs I p l e room_1 s m below meth c D cI cZ cL ad am oa b Q x4 (k0 + 60) (n0 + 6000)) (hH : ∀ (σ μ : gk_C) (o : Int64), I σ μ → ∀ (a0 : Int32) (a1 : Int32), w_L_setLabel σ o a0 a1 (fun k σ1 o1 => w_X9_setLabel μ a0 a1 (fun r μ1 => μ1.2 0 = k ∧ (k = 0 → o1 = r.toInt64) ∧ I σ1 μ1))) {σ μ : gk_C} {o : Int64} {H : Heap} {locs : List Loc} {d0 : Drawn} {ls : Array Slot} (hI : I σ μ) (hW : lo_W D cI cZ cL ad am oa σ μ o H) (hS : va_S (lo_A s.heap.size) s.heap H locs) (hd0 : s.drawn.sameBut d0 cs) (hl : lv_has ls 9 [(0, .ref b), (1, .ref (ad 0)), (2, .ref (am 38)), (3, .ref oa), (4, .int x4)]) : W p l e room_1 (s.setDrawn d0) m #[Value.ref b] below meth c H locs k0 n0 Q (F0 m 742 ls []) := by
  obtain ⟨hx, hb, hml, hown, hts0, hr, hlocks, hfl, hK0, hY0, hN0, hD, hX0, hbl⟩ := C0
  have hts := dr_words hts0 d0
  have hK := hK0.drawn d0
  have hY := hY0.drawn d0
  have hN : gk_NC (s.setDrawn d0) := hN0
  have hX : va_X b L xs (s.setDrawn d0) s.heap := hX0
  refine lv_aload_n hx hb dL_law_742 rfl (lv_at hl 1 rfl) ?_
  refine lv_aload_n hx hb dL_law_743 rfl (lv_at hl 0 rfl) ?_
  refine lv_iload hx hb dL_law_744 (lv_at hl 4 rfl) ?_
  refine lv_iconst (v := 1) hx hb dL_law_746 (by decide) ?_
  refine lv_iadd hx hb dL_law_747 ?_
  refine lo_xald hx hb hX hbl hS (hcd 1 (by decide)) dL_law_748 ?_
  refine lv_aload_n hx hb dL_law_749 rfl (lv_at hl 0 rfl) ?_
  refine lv_iload hx hb dL_law_750 (lv_at hl 4 rfl) ?_
  refine lv_iconst (v := 2) hx hb dL_law_752 (by decide) ?_
  refine lv_iadd hx hb dL_law_753 ?_
  refine lo_xald hx hb hX hbl hS (hcd 2 (by decide)) dL_law_754 ?_
  refine lv_aload_n hx hb dL_law_755 rfl (lv_at hl 3 rfl) ?_
  have hw := hH σ μ o hI ((xs (x4 + 1).toNatClampNeg)) ((xs (x4 + 2).toNatClampNeg))
  refine lo_callL ⟨hx, hb, hml, hown, hts⟩ (c_L_setLabel l hfl D cI cZ cG cL ad q1 q2 q3 oa hw) (vx_cwSW 4 hts (gk_gS ml_L_158 st_L_setLabel in_L co_L_setLabel) rfl rfl rfl (by decide +kernel) ⟨Nat.le_of_ble_eq_true rfl, Nat.le_of_ble_eq_true rfl⟩) hD hW hK hY hN hS rfl hl.1 (rest := []) rfl (lv_room (Nat.le_of_ble_eq_true rfl)) dL_law_756 ⟨by omega, by omega⟩ (fun r5 σ5 o5 H locs hw hW hS => ?_)
  refine lv_istore (lv' := [(5, .int r5), (0, .ref b), (1, .ref (ad 0)), (2, .ref (am 38)), (3, .ref oa), (4, .int x4)]) hx hb dL_law_759 hl (by decide) rfl (fun ls hl => ?_)
  refine lv_aload_n hx hb dL_law_761 rfl (lv_at hl 3 rfl) ?_
  refine lv_aload_n hx hb dL_law_762 rfl (lv_at hl 1 rfl) ?_
  refine lv_iload hx hb dL_law_763 (lv_at hl 5 rfl) ?_
  refine lv_iconst (v := 1) hx hb dL_law_765 (by decide) ?_
  refine lv_iadd hx hb dL_law_766 ?_
  refine lo_xald hx hb hX hbl hS (hcd 1 (by decide)) dL_law_767 ?_
  refine lv_aload_n hx hb dL_law_768 rfl (lv_at hl 1 rfl) ?_
  refine lv_iload hx hb dL_law_769 (lv_at hl 5 rfl) ?_
  refine lv_iconst (v := 2) hx hb dL_law_771 (by decide) ?_
  refine lv_iadd hx hb dL_law_772 ?_
  refine lo_xald hx hb hX hbl hS (hcd 2 (by decide)) dL_law_773 ?_
  refine lo_callMi ⟨hx, hb, hml, hown, hts⟩ (c_X9_setLabel l D cI cZ cG cL am hw) (cwV 2 hts (gk_gV ml_L_160 im_X9_setLabel se_X9_setLabel in_X9 co_X9_setLabel) rfl rfl rfl (by decide +kernel) ⟨Nat.le_of_ble_eq_true rfl, Nat.le_of_ble_eq_true rfl⟩) (gk_recv hK.1 (mk_obj hW.2.1) rfl) hD hW hK hS rfl hl.1 (rest := []) rfl (lv_room (Nat.le_of_ble_eq_true rfl)) dL_law_774 ⟨by omega, by omega⟩ (fun r6 μ6 H locs hw hW hS => ?_)
  obtain ⟨hth, ho, hI⟩ := hw
  refine lv_istore (lv' := [(6, .int r6), (5, .int r5), (0, .ref b), (1, .ref (ad 0)), (2, .ref (am 38)), (3, .ref oa), (4, .int x4)]) hx hb dL_law_777 hl (by decide) rfl (fun ls hl => ?_)
  refine lv_aload_n hx hb dL_law_779 rfl (lv_at hl 4 rfl) ?_
  refine lo_callMi ⟨hx, hb, hml, hown, hts⟩ (c_X9_thrown l D cI cZ cG cL am (Q := fun r => r = r5) hth) (cwV 0 hts (gk_gV ml_L_133 im_X9_thrown se_X9_thrown in_X9 co_X9_thrown) rfl rfl rfl (by decide +kernel) ⟨Nat.le_of_ble_eq_true rfl, Nat.le_of_ble_eq_true rfl⟩) (gk_recv hK.1 (mk_obj hW.2.1) rfl) hD hW hK hS rfl hl.1 (rest := []) rfl (lv_room (Nat.le_of_ble_eq_true rfl)) dL_law_780 ⟨by omega, by omega⟩ (fun r7 μ7 H locs hw7 hW hS => ?_)
  rw [hw7.1] at hW
  have hw7 := hw7.2
  refine lv_iload hx hb dL_law_783 (lv_at hl 1 rfl) ?_
  refine lv_icmp_eq (tgt := 790) hx hb dL_law_785 (by decide) (fun c785 => ?_) (fun c785 => ?_)
  · refine lv_iload hx hb dL_law_790 (lv_at hl 1 rfl) ?_
    refine lv_if_ne (tgt := 807) hx hb dL_law_792 (by decide) (fun c792 => ?_) (fun c792 => ?_)
    · refine lv_goto (tgt := 2753) hx hb dL_law_807 (by decide) ?_
      refine W.widen (k := k0 + 60) (n := n0 + 6000) (by omega) (by omega) ?_
      exact kN _ _ _ _ _ _ _ hI hW hS hd0 (lv_sub hl [2, 3, 4, 5, 6] rfl)
    · have ho := ho c792
      refine lv_aload_n hx hb dL_law_795 rfl (lv_at hl 5 rfl) ?_
      refine lv_iconst (v := 0) hx hb dL_law_796 (by decide) ?_
      refine lo_lald hx hb hK hW.2.2 dL_law_797 ?_
      refine lv_iload hx hb dL_law_798 (lv_at hl 0 rfl) ?_
      refine lv_i2l (v := r6.toInt64) hx hb dL_law_800 rfl ?_
      refine lo_lcmp hx hb (ho) dL_law_801 ?_
      refine lv_if_eq (tgt := 807) hx hb dL_law_802 (by decide) (fun c802 => ?_) (fun c802 => ?_)
      · refine lv_goto (tgt := 2753) hx hb dL_law_807 (by decide) ?_
        refine W.widen (k := k0 + 60) (n := n0 + 6000) (by omega) (by omega) ?_
        exact kN _ _ _ _ _ _ _ hI hW hS hd0 (lv_sub hl [2, 3, 4, 5, 6] rfl)
      · exact absurd rfl c802
  · exact absurd hw7 c785
set_option maxHeartbeats 4000000 in
set_option maxRecDepth 100000 in
theorem lo_case_8 {p : Program} {l : Launch} {e : Env} {s : State} {m : MethodId} {below : List Frame} {meth : Method} {c : Code} {D : va_G} {cI cZ cG cL : ClassId} {ad am : Nat → Nat} {q1 q2 q3 oa b L : Nat} {xs : Nat → Int32} (C0 : lo_C p s m meth c l D cI cZ cG cL ad am q1 q2 q3 oa b L xs) {cs : List Choice} (hnb : nanBits ∈ cs) {I : gk_C → gk_C → Prop} {Q : State → Prop} {x4 : Int32} {k0 n0 : Nat} (hcd : lo_cd L x4) (hk : k0 + 60 ≤ room_1.cells) (hn : n0 + 6000 ≤ room_1.slots) (kN : lo_Next cs I p l e room_1 s m below meth c D cI cZ cL ad am oa b Q x4 (k0 + 60) (n0 + 6000)) (hH : ∀ (σ μ : gk_C) (o : Int64), I σ μ → ∀ (a0 : Int32) (a1 : Int32) (a2 : Int32), w_L_setWall σ o a0 a1 a2 (fun k σ1 o1 => w_X9_setWall μ a0 a1 a2 (fun r μ1 => μ1.2 0 = k ∧ (k = 0 → (¬ r = 0 → o1 = 1) ∧ (r = 0 → o1 = 0)) ∧ I σ1 μ1))) {σ μ : gk_C} {o : Int64} {H : Heap} {locs : List Loc} {d0 : Drawn} {ls : Array Slot} (hI : I σ μ) (hW : lo_W D cI cZ cL ad am oa σ μ o H) (hS : va_S (lo_A s.heap.size) s.heap H locs) (hd0 : s.drawn.sameBut d0 cs) (hl : lv_has ls 9 [(0, .ref b), (1, .ref (ad 0)), (2, .ref (am 38)), (3, .ref oa), (4, .int x4)]) : W p l e room_1 (s.setDrawn d0) m #[Value.ref b] below meth c H locs k0 n0 Q (F0 m 810 ls []) := by
  obtain ⟨hx, hb, hml, hown, hts0, hr, hlocks, hfl, hK0, hY0, hN0, hD, hX0, hbl⟩ := C0
  have hts := dr_words hts0 d0
  have hK := hK0.drawn d0
  have hY := hY0.drawn d0
  have hN : gk_NC (s.setDrawn d0) := hN0
  have hX : va_X b L xs (s.setDrawn d0) s.heap := hX0
  refine lv_aload_n hx hb dL_law_810 rfl (lv_at hl 1 rfl) ?_
  refine lv_aload_n hx hb dL_law_811 rfl (lv_at hl 0 rfl) ?_
  refine lv_iload hx hb dL_law_812 (lv_at hl 4 rfl) ?_
  refine lv_iconst (v := 1) hx hb dL_law_814 (by decide) ?_
  refine lv_iadd hx hb dL_law_815 ?_
  refine lo_xald hx hb hX hbl hS (hcd 1 (by decide)) dL_law_816 ?_
  refine lv_aload_n hx hb dL_law_817 rfl (lv_at hl 0 rfl) ?_
  refine lv_iload hx hb dL_law_818 (lv_at hl 4 rfl) ?_
  refine lv_iconst (v := 2) hx hb dL_law_820 (by decide) ?_
  refine lv_iadd hx hb dL_law_821 ?_
  refine lo_xald hx hb hX hbl hS (hcd 2 (by decide)) dL_law_822 ?_
  refine lv_aload_n hx hb dL_law_823 rfl (lv_at hl 0 rfl) ?_
  refine lv_iload hx hb dL_law_824 (lv_at hl 4 rfl) ?_
  refine lv_iconst (v := 3) hx hb dL_law_826 (by decide) ?_
  refine lv_iadd hx hb dL_law_827 ?_
  refine lo_xald hx hb hX hbl hS (hcd 3 (by decide)) dL_law_828 ?_
  refine lv_aload_n hx hb dL_law_829 rfl (lv_at hl 3 rfl) ?_
  have hw := hH σ μ o hI ((xs (x4 + 1).toNatClampNeg)) ((xs (x4 + 2).toNatClampNeg)) ((xs (x4 + 3).toNatClampNeg))
  refine lo_callL ⟨hx, hb, hml, hown, hts⟩ (c_L_setWall l hfl D cI cZ cG cL ad q1 q2 q3 oa hw) (vx_cwSW 5 hts (gk_gS ml_L_161 st_L_setWall in_L co_L_setWall) rfl rfl rfl (by decide +kernel) ⟨Nat.le_of_ble_eq_true rfl, Nat.le_of_ble_eq_true rfl⟩) hD hW hK hY hN hS rfl hl.1 (rest := []) rfl (lv_room (Nat.le_of_ble_eq_true rfl)) dL_law_830 ⟨by omega, by omega⟩ (fun r5 σ5 o5 H locs hw hW hS => ?_)
  refine lv_istore (lv' := [(5, .int r5), (0, .ref b), (1, .ref (ad 0)), (2, .ref (am 38)), (3, .ref oa), (4, .int x4)]) hx hb dL_law_833 hl (by decide) rfl (fun ls hl => ?_)
  refine lv_aload_n hx hb dL_law_835 rfl (lv_at hl 3 rfl) ?_
  refine lv_aload_n hx hb dL_law_836 rfl (lv_at hl 1 rfl) ?_
  refine lv_iload hx hb dL_law_837 (lv_at hl 5 rfl) ?_
  refine lv_iconst (v := 1) hx hb dL_law_839 (by decide) ?_
  refine lv_iadd hx hb dL_law_840 ?_
  refine lo_xald hx hb hX hbl hS (hcd 1 (by decide)) dL_law_841 ?_
  refine lv_aload_n hx hb dL_law_842 rfl (lv_at hl 1 rfl) ?_
  refine lv_iload hx hb dL_law_843 (lv_at hl 5 rfl) ?_
  refine lv_iconst (v := 2) hx hb dL_law_845 (by decide) ?_
  refine lv_iadd hx hb dL_law_846 ?_
  refine lo_xald hx hb hX hbl hS (hcd 2 (by decide)) dL_law_847 ?_
  refine lv_aload_n hx hb dL_law_848 rfl (lv_at hl 1 rfl) ?_
  refine lv_iload hx hb dL_law_849 (lv_at hl 5 rfl) ?_
  refine lv_iconst (v := 3) hx hb dL_law_851 (by decide) ?_
  refine lv_iadd hx hb dL_law_852 ?_
  refine lo_xald hx hb hX hbl hS (hcd 3 (by decide)) dL_law_853 ?_
  refine lo_callMi ⟨hx, hb, hml, hown, hts⟩ (c_X9_setWall l D cI cZ cG cL am hw) (cwV 3 hts (gk_gV ml_L_163 im_X9_setWall se_X9_setWall in_X9 co_X9_setWall) rfl rfl rfl (by decide +kernel) ⟨Nat.le_of_ble_eq_true rfl, Nat.le_of_ble_eq_true rfl⟩) (gk_recv hK.1 (mk_obj hW.2.1) rfl) hD hW hK hS rfl hl.1 (rest := []) rfl (lv_room (Nat.le_of_ble_eq_true rfl)) dL_law_854 ⟨by omega, by omega⟩ (fun r6 μ6 H locs hw hW hS => ?_)
  obtain ⟨hth, ho, hI⟩ := hw
  refine lv_istore (lv' := [(6, .int r6), (5, .int r5), (0, .ref b), (1, .ref (ad 0)), (2, .ref (am 38)), (3, .ref oa), (4, .int x4)]) hx hb dL_law_857 hl (by decide) rfl (fun ls hl => ?_)
  refine lv_aload_n hx hb dL_law_859 rfl (lv_at hl 4 rfl) ?_
  refine lo_callMi ⟨hx, hb, hml, hown, hts⟩ (c_X9_thrown l D cI cZ cG cL am (Q := fun r => r = r5) hth) (cwV 0 hts (gk_gV ml_L_133 im_X9_thrown se_X9_thrown in_X9 co_X9_thrown) rfl rfl rfl (by decide +kernel) ⟨Nat.le_of_ble_eq_true rfl, Nat.le_of_ble_eq_true rfl⟩) (gk_recv hK.1 (mk_obj hW.2.1) rfl) hD hW hK hS rfl hl.1 (rest := []) rfl (lv_room (Nat.le_of_ble_eq_true rfl)) dL_law_860 ⟨by omega, by omega⟩ (fun r7 μ7 H locs hw7 hW hS => ?_)
  rw [hw7.1] at hW
  have hw7 := hw7.2
  refine lv_iload hx hb dL_law_863 (lv_at hl 1 rfl) ?_
  refine lv_icmp_eq (tgt := 870) hx hb dL_law_865 (by decide) (fun c865 => ?_) (fun c865 => ?_)
  · refine lv_iload hx hb dL_law_870 (lv_at hl 1 rfl) ?_
    refine lv_if_ne (tgt := 894) hx hb dL_law_872 (by decide) (fun c872 => ?_) (fun c872 => ?_)
    · refine lv_goto (tgt := 2753) hx hb dL_law_894 (by decide) ?_
      refine W.widen (k := k0 + 60) (n := n0 + 6000) (by omega) (by omega) ?_
      exact kN _ _ _ _ _ _ _ hI hW hS hd0 (lv_sub hl [2, 3, 4, 5, 6] rfl)
    · have ho := ho c872
      refine lv_aload_n hx hb dL_law_875 rfl (lv_at hl 5 rfl) ?_
      refine lv_iconst (v := 0) hx hb dL_law_876 (by decide) ?_
      refine lo_lald hx hb hK hW.2.2 dL_law_877 ?_
      refine lv_iload hx hb dL_law_878 (lv_at hl 0 rfl) ?_
      refine lv_if_eq (tgt := 887) hx hb dL_law_880 (by decide) (fun c880 => ?_) (fun c880 => ?_)
      · refine lv_lconst (v := 0) hx hb dL_law_887 (by decide) ?_
        refine lo_lcmp hx hb (ho.2 c880) dL_law_888 ?_
        refine lv_if_eq (tgt := 894) hx hb dL_law_889 (by decide) (fun c889 => ?_) (fun c889 => ?_)
        · refine lv_goto (tgt := 2753) hx hb dL_law_894 (by decide) ?_
          refine W.widen (k := k0 + 60) (n := n0 + 6000) (by omega) (by omega) ?_
          exact kN _ _ _ _ _ _ _ hI hW hS hd0 (lv_sub hl [2, 3, 4, 5, 6] rfl)
        · exact absurd rfl c889
      · refine lv_lconst (v := 1) hx hb dL_law_883 (by decide) ?_
        refine lv_goto (tgt := 888) hx hb dL_law_884 (by decide) ?_
        refine lo_lcmp hx hb (ho.1 c880) dL_law_888 ?_
        refine lv_if_eq (tgt := 894) hx hb dL_law_889 (by decide) (fun c889 => ?_) (fun c889 => ?_)
        · refine lv_goto (tgt := 2753) hx hb dL_law_894 (by decide) ?_
          refine W.widen (k := k0 + 60) (n := n0 + 6000) (by omega) (by omega) ?_
          exact kN _ _ _ _ _ _ _ hI hW hS hd0 (lv_sub hl [2, 3, 4, 5, 6] rfl)
        · exact absurd rfl c889
  · exact absurd hw7 c865
set_option maxHeartbeats 4000000 in
set_option maxRecDepth 100000 in
theorem lo_case_9 {p : Program} {l : Launch} {e : Env} {s : State} {m : MethodId} {below : List Frame} {meth : Method} {c : Code} {D : va_G} {cI cZ cG cL : ClassId} {ad am : Nat → Nat} {q1 q2 q3 oa b L : Nat} {xs : Nat → Int32} (C0 : lo_C p s m meth c l D cI cZ cG cL ad am q1 q2 q3 oa b L xs) {cs : List Choice} (hnb : nanBits ∈ cs) {I : gk_C → gk_C → Prop} {Q : State → Prop} {x4 : Int32} {k0 n0 : Nat} (hcd : lo_cd L x4) (hk : k0 + 60 ≤ room_1.cells) (hn : n0 + 6000 ≤ room_1.slots) (kN : lo_Next cs I p l e room_1 s m below meth c D cI cZ cL ad am oa b Q x4 (k0 + 60) (n0 + 6000)) (hH : ∀ (σ μ : gk_C), I σ μ → w_X8_users σ (fun r => w_X9_users μ (fun r1 μ1 => r = r1 ∧ I σ μ1))) {σ μ : gk_C} {o : Int64} {H : Heap} {locs : List Loc} {d0 : Drawn} {ls : Array Slot} (hI : I σ μ) (hW : lo_W D cI cZ cL ad am oa σ μ o H) (hS : va_S (lo_A s.heap.size) s.heap H locs) (hd0 : s.drawn.sameBut d0 cs) (hl : lv_has ls 9 [(0, .ref b), (1, .ref (ad 0)), (2, .ref (am 38)), (3, .ref oa), (4, .int x4)]) : W p l e room_1 (s.setDrawn d0) m #[Value.ref b] below meth c H locs k0 n0 Q (F0 m 897 ls []) := by
  obtain ⟨hx, hb, hml, hown, hts0, hr, hlocks, hfl, hK0, hY0, hN0, hD, hX0, hbl⟩ := C0
  have hts := dr_words hts0 d0
  have hK := hK0.drawn d0
  have hY := hY0.drawn d0
  have hN : gk_NC (s.setDrawn d0) := hN0
  have hX : va_X b L xs (s.setDrawn d0) s.heap := hX0
  refine lv_aload_n hx hb dL_law_897 rfl (lv_at hl 1 rfl) ?_
  have hw := hH σ μ hI
  refine lo_callGi ⟨hx, hb, hml, hown, hts⟩ (c_X8_users l D cI cZ cG cL ad hw) (cwV 0 hts (gk_gV ml_L_164 im_X8_users se_X8_users in_X8 co_X8_users) rfl rfl rfl (by decide +kernel) ⟨Nat.le_of_ble_eq_true rfl, Nat.le_of_ble_eq_true rfl⟩) (gk_recv hK.1 (gk_o0 hW.1) rfl) hD hW hK hS rfl hl.1 (rest := []) rfl (lv_room (Nat.le_of_ble_eq_true rfl)) dL_law_898 ⟨by omega, by omega⟩ (fun r5 σ5 H locs hw hW hS => ?_)
  rw [hw.1] at hW
  have hw := hw.2
  refine lv_aload_n hx hb dL_law_901 rfl (lv_at hl 2 rfl) ?_
  refine lo_callMi ⟨hx, hb, hml, hown, hts⟩ (c_X9_users l D cI cZ cG cL am hw) (cwV 0 hts (gk_gV ml_L_167 im_X9_users se_X9_users in_X9 co_X9_users) rfl rfl rfl (by decide +kernel) ⟨Nat.le_of_ble_eq_true rfl, Nat.le_of_ble_eq_true rfl⟩) (gk_recv hK.1 (mk_obj hW.2.1) rfl) hD hW hK hS rfl hl.1 (rest := [.int r5]) rfl (lv_room (Nat.le_of_ble_eq_true rfl)) dL_law_902 ⟨by omega, by omega⟩ (fun r6 μ6 H locs hw hW hS => ?_)
  obtain ⟨he, hI⟩ := hw
  refine lv_icmp_eq (tgt := 2753) hx hb dL_law_905 (by decide) (fun c905 => ?_) (fun c905 => ?_)
  · refine W.widen (k := k0 + 60) (n := n0 + 6000) (by omega) (by omega) ?_
    exact kN _ _ _ _ _ _ _ hI hW hS hd0 (lv_sub hl [0, 1, 2, 3, 4] rfl)
  · exact absurd he c905
set_option maxHeartbeats 4000000 in
set_option maxRecDepth 100000 in
theorem lo_case_10 {p : Program} {l : Launch} {e : Env} {s : State} {m : MethodId} {below : List Frame} {meth : Method} {c : Code} {D : va_G} {cI cZ cG cL : ClassId} {ad am : Nat → Nat} {q1 q2 q3 oa b L : Nat} {xs : Nat → Int32} (C0 : lo_C p s m meth c l D cI cZ cG cL ad am q1 q2 q3 oa b L xs) {cs : List Choice} (hnb : nanBits ∈ cs) {I : gk_C → gk_C → Prop} {Q : State → Prop} {x4 : Int32} {k0 n0 : Nat} (hcd : lo_cd L x4) (hk : k0 + 60 ≤ room_1.cells) (hn : n0 + 6000 ≤ room_1.slots) (kN : lo_Next cs I p l e room_1 s m below meth c D cI cZ cL ad am oa b Q x4 (k0 + 60) (n0 + 6000)) (hH : ∀ (σ μ : gk_C), I σ μ → w_X8_roles σ (fun r => w_X9_roles μ (fun r1 μ1 => r = r1 ∧ I σ μ1))) {σ μ : gk_C} {o : Int64} {H : Heap} {locs : List Loc} {d0 : Drawn} {ls : Array Slot} (hI : I σ μ) (hW : lo_W D cI cZ cL ad am oa σ μ o H) (hS : va_S (lo_A s.heap.size) s.heap H locs) (hd0 : s.drawn.sameBut d0 cs) (hl : lv_has ls 9 [(0, .ref b), (1, .ref (ad 0)), (2, .ref (am 38)), (3, .ref oa), (4, .int x4)]) : W p l e room_1 (s.setDrawn d0) m #[Value.ref b] below meth c H locs k0 n0 Q (F0 m 910 ls []) := by
  obtain ⟨hx, hb, hml, hown, hts0, hr, hlocks, hfl, hK0, hY0, hN0, hD, hX0, hbl⟩ := C0
  have hts := dr_words hts0 d0
  have hK := hK0.drawn d0
  have hY := hY0.drawn d0
  have hN : gk_NC (s.setDrawn d0) := hN0
  have hX : va_X b L xs (s.setDrawn d0) s.heap := hX0
  refine lv_aload_n hx hb dL_law_910 rfl (lv_at hl 1 rfl) ?_
  have hw := hH σ μ hI
  refine lo_callGi ⟨hx, hb, hml, hown, hts⟩ (c_X8_roles l D cI cZ cG cL ad hw) (cwV 0 hts (gk_gV ml_L_168 im_X8_roles se_X8_roles in_X8 co_X8_roles) rfl rfl rfl (by decide +kernel) ⟨Nat.le_of_ble_eq_true rfl, Nat.le_of_ble_eq_true rfl⟩) (gk_recv hK.1 (gk_o0 hW.1) rfl) hD hW hK hS rfl hl.1 (rest := []) rfl (lv_room (Nat.le_of_ble_eq_true rfl)) dL_law_911 ⟨by omega, by omega⟩ (fun r5 σ5 H locs hw hW hS => ?_)
  rw [hw.1] at hW
  have hw := hw.2
  refine lv_aload_n hx hb dL_law_914 rfl (lv_at hl 2 rfl) ?_
  refine lo_callMi ⟨hx, hb, hml, hown, hts⟩ (c_X9_roles l D cI cZ cG cL am hw) (cwV 0 hts (gk_gV ml_L_171 im_X9_roles se_X9_roles in_X9 co_X9_roles) rfl rfl rfl (by decide +kernel) ⟨Nat.le_of_ble_eq_true rfl, Nat.le_of_ble_eq_true rfl⟩) (gk_recv hK.1 (mk_obj hW.2.1) rfl) hD hW hK hS rfl hl.1 (rest := [.int r5]) rfl (lv_room (Nat.le_of_ble_eq_true rfl)) dL_law_915 ⟨by omega, by omega⟩ (fun r6 μ6 H locs hw hW hS => ?_)
  obtain ⟨he, hI⟩ := hw
  refine lv_icmp_eq (tgt := 2753) hx hb dL_law_918 (by decide) (fun c918 => ?_) (fun c918 => ?_)
  · refine W.widen (k := k0 + 60) (n := n0 + 6000) (by omega) (by omega) ?_
    exact kN _ _ _ _ _ _ _ hI hW hS hd0 (lv_sub hl [0, 1, 2, 3, 4] rfl)
  · exact absurd he c918
set_option maxHeartbeats 4000000 in
set_option maxRecDepth 100000 in
theorem lo_case_11 {p : Program} {l : Launch} {e : Env} {s : State} {m : MethodId} {below : List Frame} {meth : Method} {c : Code} {D : va_G} {cI cZ cG cL : ClassId} {ad am : Nat → Nat} {q1 q2 q3 oa b L : Nat} {xs : Nat → Int32} (C0 : lo_C p s m meth c l D cI cZ cG cL ad am q1 q2 q3 oa b L xs) {cs : List Choice} (hnb : nanBits ∈ cs) {I : gk_C → gk_C → Prop} {Q : State → Prop} {x4 : Int32} {k0 n0 : Nat} (hcd : lo_cd L x4) (hk : k0 + 60 ≤ room_1.cells) (hn : n0 + 6000 ≤ room_1.slots) (kN : lo_Next cs I p l e room_1 s m below meth c D cI cZ cL ad am oa b Q x4 (k0 + 60) (n0 + 6000)) (hH : ∀ (σ μ : gk_C), I σ μ → w_X8_resources σ (fun r => w_X9_resources μ (fun r1 μ1 => r = r1 ∧ I σ μ1))) {σ μ : gk_C} {o : Int64} {H : Heap} {locs : List Loc} {d0 : Drawn} {ls : Array Slot} (hI : I σ μ) (hW : lo_W D cI cZ cL ad am oa σ μ o H) (hS : va_S (lo_A s.heap.size) s.heap H locs) (hd0 : s.drawn.sameBut d0 cs) (hl : lv_has ls 9 [(0, .ref b), (1, .ref (ad 0)), (2, .ref (am 38)), (3, .ref oa), (4, .int x4)]) : W p l e room_1 (s.setDrawn d0) m #[Value.ref b] below meth c H locs k0 n0 Q (F0 m 923 ls []) := by
  obtain ⟨hx, hb, hml, hown, hts0, hr, hlocks, hfl, hK0, hY0, hN0, hD, hX0, hbl⟩ := C0
  have hts := dr_words hts0 d0
  have hK := hK0.drawn d0
  have hY := hY0.drawn d0
  have hN : gk_NC (s.setDrawn d0) := hN0
  have hX : va_X b L xs (s.setDrawn d0) s.heap := hX0
  refine lv_aload_n hx hb dL_law_923 rfl (lv_at hl 1 rfl) ?_
  have hw := hH σ μ hI
  refine lo_callGi ⟨hx, hb, hml, hown, hts⟩ (c_X8_resources l D cI cZ cG cL ad hw) (cwV 0 hts (gk_gV ml_L_172 im_X8_resources se_X8_resources in_X8 co_X8_resources) rfl rfl rfl (by decide +kernel) ⟨Nat.le_of_ble_eq_true rfl, Nat.le_of_ble_eq_true rfl⟩) (gk_recv hK.1 (gk_o0 hW.1) rfl) hD hW hK hS rfl hl.1 (rest := []) rfl (lv_room (Nat.le_of_ble_eq_true rfl)) dL_law_924 ⟨by omega, by omega⟩ (fun r5 σ5 H locs hw hW hS => ?_)
  rw [hw.1] at hW
  have hw := hw.2
  refine lv_aload_n hx hb dL_law_927 rfl (lv_at hl 2 rfl) ?_
  refine lo_callMi ⟨hx, hb, hml, hown, hts⟩ (c_X9_resources l D cI cZ cG cL am hw) (cwV 0 hts (gk_gV ml_L_175 im_X9_resources se_X9_resources in_X9 co_X9_resources) rfl rfl rfl (by decide +kernel) ⟨Nat.le_of_ble_eq_true rfl, Nat.le_of_ble_eq_true rfl⟩) (gk_recv hK.1 (mk_obj hW.2.1) rfl) hD hW hK hS rfl hl.1 (rest := [.int r5]) rfl (lv_room (Nat.le_of_ble_eq_true rfl)) dL_law_928 ⟨by omega, by omega⟩ (fun r6 μ6 H locs hw hW hS => ?_)
  obtain ⟨he, hI⟩ := hw
  refine lv_icmp_eq (tgt := 2753) hx hb dL_law_931 (by decide) (fun c931 => ?_) (fun c931 => ?_)
  · refine W.widen (k := k0 + 60) (n := n0 + 6000) (by omega) (by omega) ?_
    exact kN _ _ _ _ _ _ _ hI hW hS hd0 (lv_sub hl [0, 1, 2, 3, 4] rfl)
  · exact absurd he c931
set_option maxHeartbeats 4000000 in
set_option maxRecDepth 100000 in
theorem lo_case_12 {p : Program} {l : Launch} {e : Env} {s : State} {m : MethodId} {below : List Frame} {meth : Method} {c : Code} {D : va_G} {cI cZ cG cL : ClassId} {ad am : Nat → Nat} {q1 q2 q3 oa b L : Nat} {xs : Nat → Int32} (C0 : lo_C p s m meth c l D cI cZ cG cL ad am q1 q2 q3 oa b L xs) {cs : List Choice} (hnb : nanBits ∈ cs) {I : gk_C → gk_C → Prop} {Q : State → Prop} {x4 : Int32} {k0 n0 : Nat} (hcd : lo_cd L x4) (hk : k0 + 60 ≤ room_1.cells) (hn : n0 + 6000 ≤ room_1.slots) (kN : lo_Next cs I p l e room_1 s m below meth c D cI cZ cL ad am oa b Q x4 (k0 + 60) (n0 + 6000)) (hH : ∀ (σ μ : gk_C) (o : Int64), I σ μ → ∀ (a0 : Int32) (a1 : Int32), w_L_near σ o a0 a1 (fun k σ1 o1 => w_X9_near μ a0 a1 (fun r μ1 => μ1.2 0 = k ∧ (k = 0 → o1 = r.toInt64) ∧ I σ1 μ1))) {σ μ : gk_C} {o : Int64} {H : Heap} {locs : List Loc} {d0 : Drawn} {ls : Array Slot} (hI : I σ μ) (hW : lo_W D cI cZ cL ad am oa σ μ o H) (hS : va_S (lo_A s.heap.size) s.heap H locs) (hd0 : s.drawn.sameBut d0 cs) (hl : lv_has ls 9 [(0, .ref b), (1, .ref (ad 0)), (2, .ref (am 38)), (3, .ref oa), (4, .int x4)]) : W p l e room_1 (s.setDrawn d0) m #[Value.ref b] below meth c H locs k0 n0 Q (F0 m 936 ls []) := by
  obtain ⟨hx, hb, hml, hown, hts0, hr, hlocks, hfl, hK0, hY0, hN0, hD, hX0, hbl⟩ := C0
  have hts := dr_words hts0 d0
  have hK := hK0.drawn d0
  have hY := hY0.drawn d0
  have hN : gk_NC (s.setDrawn d0) := hN0
  have hX : va_X b L xs (s.setDrawn d0) s.heap := hX0
  refine lv_aload_n hx hb dL_law_936 rfl (lv_at hl 1 rfl) ?_
  refine lv_aload_n hx hb dL_law_937 rfl (lv_at hl 0 rfl) ?_
  refine lv_iload hx hb dL_law_938 (lv_at hl 4 rfl) ?_
  refine lv_iconst (v := 1) hx hb dL_law_940 (by decide) ?_
  refine lv_iadd hx hb dL_law_941 ?_
  refine lo_xald hx hb hX hbl hS (hcd 1 (by decide)) dL_law_942 ?_
  refine lv_aload_n hx hb dL_law_943 rfl (lv_at hl 0 rfl) ?_
  refine lv_iload hx hb dL_law_944 (lv_at hl 4 rfl) ?_
  refine lv_iconst (v := 2) hx hb dL_law_946 (by decide) ?_
  refine lv_iadd hx hb dL_law_947 ?_
  refine lo_xald hx hb hX hbl hS (hcd 2 (by decide)) dL_law_948 ?_
  refine lv_aload_n hx hb dL_law_949 rfl (lv_at hl 3 rfl) ?_
  have hw := hH σ μ o hI ((xs (x4 + 1).toNatClampNeg)) ((xs (x4 + 2).toNatClampNeg))
  refine lo_callL ⟨hx, hb, hml, hown, hts⟩ (c_L_near l hfl D cI cZ cG cL ad q1 q2 q3 oa hw) (vx_cwSW 4 hts (gk_gS ml_L_176 st_L_near in_L co_L_near) rfl rfl rfl (by decide +kernel) ⟨Nat.le_of_ble_eq_true rfl, Nat.le_of_ble_eq_true rfl⟩) hD hW hK hY hN hS rfl hl.1 (rest := []) rfl (lv_room (Nat.le_of_ble_eq_true rfl)) dL_law_950 ⟨by omega, by omega⟩ (fun r5 σ5 o5 H locs hw hW hS => ?_)
  refine lv_istore (lv' := [(5, .int r5), (0, .ref b), (1, .ref (ad 0)), (2, .ref (am 38)), (3, .ref oa), (4, .int x4)]) hx hb dL_law_953 hl (by decide) rfl (fun ls hl => ?_)
  refine lv_aload_n hx hb dL_law_955 rfl (lv_at hl 3 rfl) ?_
  refine lv_aload_n hx hb dL_law_956 rfl (lv_at hl 1 rfl) ?_
  refine lv_iload hx hb dL_law_957 (lv_at hl 5 rfl) ?_
  refine lv_iconst (v := 1) hx hb dL_law_959 (by decide) ?_
  refine lv_iadd hx hb dL_law_960 ?_
  refine lo_xald hx hb hX hbl hS (hcd 1 (by decide)) dL_law_961 ?_
  refine lv_aload_n hx hb dL_law_962 rfl (lv_at hl 1 rfl) ?_
  refine lv_iload hx hb dL_law_963 (lv_at hl 5 rfl) ?_
  refine lv_iconst (v := 2) hx hb dL_law_965 (by decide) ?_
  refine lv_iadd hx hb dL_law_966 ?_
  refine lo_xald hx hb hX hbl hS (hcd 2 (by decide)) dL_law_967 ?_
  refine lo_callMi ⟨hx, hb, hml, hown, hts⟩ (c_X9_near l D cI cZ cG cL am hw) (cwV 2 hts (gk_gV ml_L_178 im_X9_near se_X9_near in_X9 co_X9_near) rfl rfl rfl (by decide +kernel) ⟨Nat.le_of_ble_eq_true rfl, Nat.le_of_ble_eq_true rfl⟩) (gk_recv hK.1 (mk_obj hW.2.1) rfl) hD hW hK hS rfl hl.1 (rest := []) rfl (lv_room (Nat.le_of_ble_eq_true rfl)) dL_law_968 ⟨by omega, by omega⟩ (fun r6 μ6 H locs hw hW hS => ?_)
  obtain ⟨hth, ho, hI⟩ := hw
  refine lv_istore (lv' := [(6, .int r6), (5, .int r5), (0, .ref b), (1, .ref (ad 0)), (2, .ref (am 38)), (3, .ref oa), (4, .int x4)]) hx hb dL_law_971 hl (by decide) rfl (fun ls hl => ?_)
  refine lv_aload_n hx hb dL_law_973 rfl (lv_at hl 4 rfl) ?_
  refine lo_callMi ⟨hx, hb, hml, hown, hts⟩ (c_X9_thrown l D cI cZ cG cL am (Q := fun r => r = r5) hth) (cwV 0 hts (gk_gV ml_L_133 im_X9_thrown se_X9_thrown in_X9 co_X9_thrown) rfl rfl rfl (by decide +kernel) ⟨Nat.le_of_ble_eq_true rfl, Nat.le_of_ble_eq_true rfl⟩) (gk_recv hK.1 (mk_obj hW.2.1) rfl) hD hW hK hS rfl hl.1 (rest := []) rfl (lv_room (Nat.le_of_ble_eq_true rfl)) dL_law_974 ⟨by omega, by omega⟩ (fun r7 μ7 H locs hw7 hW hS => ?_)
  rw [hw7.1] at hW
  have hw7 := hw7.2
  refine lv_iload hx hb dL_law_977 (lv_at hl 1 rfl) ?_
  refine lv_icmp_eq (tgt := 984) hx hb dL_law_979 (by decide) (fun c979 => ?_) (fun c979 => ?_)
  · refine lv_iload hx hb dL_law_984 (lv_at hl 1 rfl) ?_
    refine lv_if_ne (tgt := 1001) hx hb dL_law_986 (by decide) (fun c986 => ?_) (fun c986 => ?_)
    · refine lv_goto (tgt := 2753) hx hb dL_law_1001 (by decide) ?_
      refine W.widen (k := k0 + 60) (n := n0 + 6000) (by omega) (by omega) ?_
      exact kN _ _ _ _ _ _ _ hI hW hS hd0 (lv_sub hl [2, 3, 4, 5, 6] rfl)
    · have ho := ho c986
      refine lv_aload_n hx hb dL_law_989 rfl (lv_at hl 5 rfl) ?_
      refine lv_iconst (v := 0) hx hb dL_law_990 (by decide) ?_
      refine lo_lald hx hb hK hW.2.2 dL_law_991 ?_
      refine lv_iload hx hb dL_law_992 (lv_at hl 0 rfl) ?_
      refine lv_i2l (v := r6.toInt64) hx hb dL_law_994 rfl ?_
      refine lo_lcmp hx hb (ho) dL_law_995 ?_
      refine lv_if_eq (tgt := 1001) hx hb dL_law_996 (by decide) (fun c996 => ?_) (fun c996 => ?_)
      · refine lv_goto (tgt := 2753) hx hb dL_law_1001 (by decide) ?_
        refine W.widen (k := k0 + 60) (n := n0 + 6000) (by omega) (by omega) ?_
        exact kN _ _ _ _ _ _ _ hI hW hS hd0 (lv_sub hl [2, 3, 4, 5, 6] rfl)
      · exact absurd rfl c996
  · exact absurd hw7 c979
set_option maxHeartbeats 4000000 in
set_option maxRecDepth 100000 in
theorem lo_case_13 {p : Program} {l : Launch} {e : Env} {s : State} {m : MethodId} {below : List Frame} {meth : Method} {c : Code} {D : va_G} {cI cZ cG cL : ClassId} {ad am : Nat → Nat} {q1 q2 q3 oa b L : Nat} {xs : Nat → Int32} (C0 : lo_C p s m meth c l D cI cZ cG cL ad am q1 q2 q3 oa b L xs) {cs : List Choice} (hnb : nanBits ∈ cs) {I : gk_C → gk_C → Prop} {Q : State → Prop} {x4 : Int32} {k0 n0 : Nat} (hcd : lo_cd L x4) (hk : k0 + 60 ≤ room_1.cells) (hn : n0 + 6000 ≤ room_1.slots) (kN : lo_Next cs I p l e room_1 s m below meth c D cI cZ cL ad am oa b Q x4 (k0 + 60) (n0 + 6000)) (hH : ∀ (σ μ : gk_C) (o : Int64), I σ μ → ∀ (a0 : Int32) (a1 : Int32), w_L_far σ o a0 a1 (fun k σ1 o1 => w_X9_far μ a0 a1 (fun r μ1 => μ1.2 0 = k ∧ (k = 0 → o1 = r.toInt64) ∧ I σ1 μ1))) {σ μ : gk_C} {o : Int64} {H : Heap} {locs : List Loc} {d0 : Drawn} {ls : Array Slot} (hI : I σ μ) (hW : lo_W D cI cZ cL ad am oa σ μ o H) (hS : va_S (lo_A s.heap.size) s.heap H locs) (hd0 : s.drawn.sameBut d0 cs) (hl : lv_has ls 9 [(0, .ref b), (1, .ref (ad 0)), (2, .ref (am 38)), (3, .ref oa), (4, .int x4)]) : W p l e room_1 (s.setDrawn d0) m #[Value.ref b] below meth c H locs k0 n0 Q (F0 m 1004 ls []) := by
  obtain ⟨hx, hb, hml, hown, hts0, hr, hlocks, hfl, hK0, hY0, hN0, hD, hX0, hbl⟩ := C0
  have hts := dr_words hts0 d0
  have hK := hK0.drawn d0
  have hY := hY0.drawn d0
  have hN : gk_NC (s.setDrawn d0) := hN0
  have hX : va_X b L xs (s.setDrawn d0) s.heap := hX0
  refine lv_aload_n hx hb dL_law_1004 rfl (lv_at hl 1 rfl) ?_
  refine lv_aload_n hx hb dL_law_1005 rfl (lv_at hl 0 rfl) ?_
  refine lv_iload hx hb dL_law_1006 (lv_at hl 4 rfl) ?_
  refine lv_iconst (v := 1) hx hb dL_law_1008 (by decide) ?_
  refine lv_iadd hx hb dL_law_1009 ?_
  refine lo_xald hx hb hX hbl hS (hcd 1 (by decide)) dL_law_1010 ?_
  refine lv_aload_n hx hb dL_law_1011 rfl (lv_at hl 0 rfl) ?_
  refine lv_iload hx hb dL_law_1012 (lv_at hl 4 rfl) ?_
  refine lv_iconst (v := 2) hx hb dL_law_1014 (by decide) ?_
  refine lv_iadd hx hb dL_law_1015 ?_
  refine lo_xald hx hb hX hbl hS (hcd 2 (by decide)) dL_law_1016 ?_
  refine lv_aload_n hx hb dL_law_1017 rfl (lv_at hl 3 rfl) ?_
  have hw := hH σ μ o hI ((xs (x4 + 1).toNatClampNeg)) ((xs (x4 + 2).toNatClampNeg))
  refine lo_callL ⟨hx, hb, hml, hown, hts⟩ (c_L_far l hfl D cI cZ cG cL ad q1 q2 q3 oa hw) (vx_cwSW 4 hts (gk_gS ml_L_179 st_L_far in_L co_L_far) rfl rfl rfl (by decide +kernel) ⟨Nat.le_of_ble_eq_true rfl, Nat.le_of_ble_eq_true rfl⟩) hD hW hK hY hN hS rfl hl.1 (rest := []) rfl (lv_room (Nat.le_of_ble_eq_true rfl)) dL_law_1018 ⟨by omega, by omega⟩ (fun r5 σ5 o5 H locs hw hW hS => ?_)
  refine lv_istore (lv' := [(5, .int r5), (0, .ref b), (1, .ref (ad 0)), (2, .ref (am 38)), (3, .ref oa), (4, .int x4)]) hx hb dL_law_1021 hl (by decide) rfl (fun ls hl => ?_)
  refine lv_aload_n hx hb dL_law_1023 rfl (lv_at hl 3 rfl) ?_
  refine lv_aload_n hx hb dL_law_1024 rfl (lv_at hl 1 rfl) ?_
  refine lv_iload hx hb dL_law_1025 (lv_at hl 5 rfl) ?_
  refine lv_iconst (v := 1) hx hb dL_law_1027 (by decide) ?_
  refine lv_iadd hx hb dL_law_1028 ?_
  refine lo_xald hx hb hX hbl hS (hcd 1 (by decide)) dL_law_1029 ?_
  refine lv_aload_n hx hb dL_law_1030 rfl (lv_at hl 1 rfl) ?_
  refine lv_iload hx hb dL_law_1031 (lv_at hl 5 rfl) ?_
  refine lv_iconst (v := 2) hx hb dL_law_1033 (by decide) ?_
  refine lv_iadd hx hb dL_law_1034 ?_
  refine lo_xald hx hb hX hbl hS (hcd 2 (by decide)) dL_law_1035 ?_
  refine lo_callMi ⟨hx, hb, hml, hown, hts⟩ (c_X9_far l D cI cZ cG cL am hw) (cwV 2 hts (gk_gV ml_L_181 im_X9_far se_X9_far in_X9 co_X9_far) rfl rfl rfl (by decide +kernel) ⟨Nat.le_of_ble_eq_true rfl, Nat.le_of_ble_eq_true rfl⟩) (gk_recv hK.1 (mk_obj hW.2.1) rfl) hD hW hK hS rfl hl.1 (rest := []) rfl (lv_room (Nat.le_of_ble_eq_true rfl)) dL_law_1036 ⟨by omega, by omega⟩ (fun r6 μ6 H locs hw hW hS => ?_)
  obtain ⟨hth, ho, hI⟩ := hw
  refine lv_istore (lv' := [(6, .int r6), (5, .int r5), (0, .ref b), (1, .ref (ad 0)), (2, .ref (am 38)), (3, .ref oa), (4, .int x4)]) hx hb dL_law_1039 hl (by decide) rfl (fun ls hl => ?_)
  refine lv_aload_n hx hb dL_law_1041 rfl (lv_at hl 4 rfl) ?_
  refine lo_callMi ⟨hx, hb, hml, hown, hts⟩ (c_X9_thrown l D cI cZ cG cL am (Q := fun r => r = r5) hth) (cwV 0 hts (gk_gV ml_L_133 im_X9_thrown se_X9_thrown in_X9 co_X9_thrown) rfl rfl rfl (by decide +kernel) ⟨Nat.le_of_ble_eq_true rfl, Nat.le_of_ble_eq_true rfl⟩) (gk_recv hK.1 (mk_obj hW.2.1) rfl) hD hW hK hS rfl hl.1 (rest := []) rfl (lv_room (Nat.le_of_ble_eq_true rfl)) dL_law_1042 ⟨by omega, by omega⟩ (fun r7 μ7 H locs hw7 hW hS => ?_)
  rw [hw7.1] at hW
  have hw7 := hw7.2
  refine lv_iload hx hb dL_law_1045 (lv_at hl 1 rfl) ?_
  refine lv_icmp_eq (tgt := 1052) hx hb dL_law_1047 (by decide) (fun c1047 => ?_) (fun c1047 => ?_)
  · refine lv_iload hx hb dL_law_1052 (lv_at hl 1 rfl) ?_
    refine lv_if_ne (tgt := 1069) hx hb dL_law_1054 (by decide) (fun c1054 => ?_) (fun c1054 => ?_)
    · refine lv_goto (tgt := 2753) hx hb dL_law_1069 (by decide) ?_
      refine W.widen (k := k0 + 60) (n := n0 + 6000) (by omega) (by omega) ?_
      exact kN _ _ _ _ _ _ _ hI hW hS hd0 (lv_sub hl [2, 3, 4, 5, 6] rfl)
    · have ho := ho c1054
      refine lv_aload_n hx hb dL_law_1057 rfl (lv_at hl 5 rfl) ?_
      refine lv_iconst (v := 0) hx hb dL_law_1058 (by decide) ?_
      refine lo_lald hx hb hK hW.2.2 dL_law_1059 ?_
      refine lv_iload hx hb dL_law_1060 (lv_at hl 0 rfl) ?_
      refine lv_i2l (v := r6.toInt64) hx hb dL_law_1062 rfl ?_
      refine lo_lcmp hx hb (ho) dL_law_1063 ?_
      refine lv_if_eq (tgt := 1069) hx hb dL_law_1064 (by decide) (fun c1064 => ?_) (fun c1064 => ?_)
      · refine lv_goto (tgt := 2753) hx hb dL_law_1069 (by decide) ?_
        refine W.widen (k := k0 + 60) (n := n0 + 6000) (by omega) (by omega) ?_
        exact kN _ _ _ _ _ _ _ hI hW hS hd0 (lv_sub hl [2, 3, 4, 5, 6] rfl)
      · exact absurd rfl c1064
  · exact absurd hw7 c1047
set_option maxHeartbeats 4000000 in
set_option maxRecDepth 100000 in
theorem lo_case_14 {p : Program} {l : Launch} {e : Env} {s : State} {m : MethodId} {below : List Frame} {meth : Method} {c : Code} {D : va_G} {cI cZ cG cL : ClassId} {ad am : Nat → Nat} {q1 q2 q3 oa b L : Nat} {xs : Nat → Int32} (C0 : lo_C p s m meth c l D cI cZ cG cL ad am q1 q2 q3 oa b L xs) {cs : List Choice} (hnb : nanBits ∈ cs) {I : gk_C → gk_C → Prop} {Q : State → Prop} {x4 : Int32} {k0 n0 : Nat} (hcd : lo_cd L x4) (hk : k0 + 60 ≤ room_1.cells) (hn : n0 + 6000 ≤ room_1.slots) (kN : lo_Next cs I p l e room_1 s m below meth c D cI cZ cL ad am oa b Q x4 (k0 + 60) (n0 + 6000)) (hH : ∀ (σ μ : gk_C) (o : Int64), I σ μ → ∀ (a0 : Int32) (a1 : Int32) (a2 : Int32) (a3 : Int32), (a0 = 0 ∨ a0 = 1) → w_L_addRule σ o a0 a1 a2 a3 (fun k σ1 o1 => w_X9_addRule μ a0 a1 a2 a3 (fun r μ1 => μ1.2 0 = k ∧ (k = 0 → o1 = r.toInt64) ∧ I σ1 μ1))) {σ μ : gk_C} {o : Int64} {H : Heap} {locs : List Loc} {d0 : Drawn} {ls : Array Slot} (hI : I σ μ) (hW : lo_W D cI cZ cL ad am oa σ μ o H) (hS : va_S (lo_A s.heap.size) s.heap H locs) (hd0 : s.drawn.sameBut d0 cs) (hl : lv_has ls 9 [(0, .ref b), (1, .ref (ad 0)), (2, .ref (am 38)), (3, .ref oa), (4, .int x4)]) : W p l e room_1 (s.setDrawn d0) m #[Value.ref b] below meth c H locs k0 n0 Q (F0 m 1072 ls []) := by
  obtain ⟨hx, hb, hml, hown, hts0, hr, hlocks, hfl, hK0, hY0, hN0, hD, hX0, hbl⟩ := C0
  have hts := dr_words hts0 d0
  have hK := hK0.drawn d0
  have hY := hY0.drawn d0
  have hN : gk_NC (s.setDrawn d0) := hN0
  have hX : va_X b L xs (s.setDrawn d0) s.heap := hX0
  refine lv_aload_n hx hb dL_law_1072 rfl (lv_at hl 1 rfl) ?_
  refine lv_aload_n hx hb dL_law_1073 rfl (lv_at hl 0 rfl) ?_
  refine lv_iload hx hb dL_law_1074 (lv_at hl 4 rfl) ?_
  refine lv_iconst (v := 1) hx hb dL_law_1076 (by decide) ?_
  refine lv_iadd hx hb dL_law_1077 ?_
  refine lo_xald hx hb hX hbl hS (hcd 1 (by decide)) dL_law_1078 ?_
  refine lv_if_eq (tgt := 1086) hx hb dL_law_1079 (by decide) (fun c1079 => ?_) (fun c1079 => ?_)
  · refine lv_iconst (v := 0) hx hb dL_law_1086 (by decide) ?_
    refine lv_aload_n hx hb dL_law_1087 rfl (lv_at hl 0 rfl) ?_
    refine lv_iload hx hb dL_law_1088 (lv_at hl 4 rfl) ?_
    refine lv_iconst (v := 2) hx hb dL_law_1090 (by decide) ?_
    refine lv_iadd hx hb dL_law_1091 ?_
    refine lo_xald hx hb hX hbl hS (hcd 2 (by decide)) dL_law_1092 ?_
    refine lv_aload_n hx hb dL_law_1093 rfl (lv_at hl 0 rfl) ?_
    refine lv_iload hx hb dL_law_1094 (lv_at hl 4 rfl) ?_
    refine lv_iconst (v := 3) hx hb dL_law_1096 (by decide) ?_
    refine lv_iadd hx hb dL_law_1097 ?_
    refine lo_xald hx hb hX hbl hS (hcd 3 (by decide)) dL_law_1098 ?_
    refine lv_aload_n hx hb dL_law_1099 rfl (lv_at hl 0 rfl) ?_
    refine lv_iload hx hb dL_law_1100 (lv_at hl 4 rfl) ?_
    refine lv_iconst (v := 4) hx hb dL_law_1102 (by decide) ?_
    refine lv_iadd hx hb dL_law_1103 ?_
    refine lo_xald hx hb hX hbl hS (hcd 4 (by decide)) dL_law_1104 ?_
    refine lv_aload_n hx hb dL_law_1105 rfl (lv_at hl 3 rfl) ?_
    have hw := hH σ μ o hI (0) ((xs (x4 + 2).toNatClampNeg)) ((xs (x4 + 3).toNatClampNeg)) ((xs (x4 + 4).toNatClampNeg)) (Or.inl rfl)
    refine lo_callL ⟨hx, hb, hml, hown, hts⟩ (c_L_addRule l hfl D cI cZ cG cL ad q1 q2 q3 oa hw) (vx_cwSW 6 hts (gk_gS ml_L_182 st_L_addRule in_L co_L_addRule) rfl rfl rfl (by decide +kernel) ⟨Nat.le_of_ble_eq_true rfl, Nat.le_of_ble_eq_true rfl⟩) hD hW hK hY hN hS rfl hl.1 (rest := []) rfl (lv_room (Nat.le_of_ble_eq_true rfl)) dL_law_1106 ⟨by omega, by omega⟩ (fun r5 σ5 o5 H locs hw hW hS => ?_)
    refine lv_istore (lv' := [(5, .int r5), (0, .ref b), (1, .ref (ad 0)), (2, .ref (am 38)), (3, .ref oa), (4, .int x4)]) hx hb dL_law_1109 hl (by decide) rfl (fun ls hl => ?_)
    refine lv_aload_n hx hb dL_law_1111 rfl (lv_at hl 3 rfl) ?_
    refine lv_aload_n hx hb dL_law_1112 rfl (lv_at hl 1 rfl) ?_
    refine lv_iload hx hb dL_law_1113 (lv_at hl 5 rfl) ?_
    refine lv_iconst (v := 1) hx hb dL_law_1115 (by decide) ?_
    refine lv_iadd hx hb dL_law_1116 ?_
    refine lo_xald hx hb hX hbl hS (hcd 1 (by decide)) dL_law_1117 ?_
    refine lv_if_eq (tgt := 1125) hx hb dL_law_1118 (by decide) (fun c1118 => ?_) (fun c1118 => ?_)
    · refine lv_iconst (v := 0) hx hb dL_law_1125 (by decide) ?_
      refine lv_aload_n hx hb dL_law_1126 rfl (lv_at hl 1 rfl) ?_
      refine lv_iload hx hb dL_law_1127 (lv_at hl 5 rfl) ?_
      refine lv_iconst (v := 2) hx hb dL_law_1129 (by decide) ?_
      refine lv_iadd hx hb dL_law_1130 ?_
      refine lo_xald hx hb hX hbl hS (hcd 2 (by decide)) dL_law_1131 ?_
      refine lv_aload_n hx hb dL_law_1132 rfl (lv_at hl 1 rfl) ?_
      refine lv_iload hx hb dL_law_1133 (lv_at hl 5 rfl) ?_
      refine lv_iconst (v := 3) hx hb dL_law_1135 (by decide) ?_
      refine lv_iadd hx hb dL_law_1136 ?_
      refine lo_xald hx hb hX hbl hS (hcd 3 (by decide)) dL_law_1137 ?_
      refine lv_aload_n hx hb dL_law_1138 rfl (lv_at hl 1 rfl) ?_
      refine lv_iload hx hb dL_law_1139 (lv_at hl 5 rfl) ?_
      refine lv_iconst (v := 4) hx hb dL_law_1141 (by decide) ?_
      refine lv_iadd hx hb dL_law_1142 ?_
      refine lo_xald hx hb hX hbl hS (hcd 4 (by decide)) dL_law_1143 ?_
      refine lo_callMi ⟨hx, hb, hml, hown, hts⟩ (c_X9_addRule l D cI cZ cG cL am hw) (cwV 4 hts (gk_gV ml_L_185 im_X9_addRule se_X9_addRule in_X9 co_X9_addRule) rfl rfl rfl (by decide +kernel) ⟨Nat.le_of_ble_eq_true rfl, Nat.le_of_ble_eq_true rfl⟩) (gk_recv hK.1 (mk_obj hW.2.1) rfl) hD hW hK hS rfl hl.1 (rest := []) rfl (lv_room (Nat.le_of_ble_eq_true rfl)) dL_law_1144 ⟨by omega, by omega⟩ (fun r6 μ6 H locs hw hW hS => ?_)
      obtain ⟨hth, ho, hI⟩ := hw
      refine lv_istore (lv' := [(6, .int r6), (5, .int r5), (0, .ref b), (1, .ref (ad 0)), (2, .ref (am 38)), (3, .ref oa), (4, .int x4)]) hx hb dL_law_1147 hl (by decide) rfl (fun ls hl => ?_)
      refine lv_aload_n hx hb dL_law_1149 rfl (lv_at hl 4 rfl) ?_
      refine lo_callMi ⟨hx, hb, hml, hown, hts⟩ (c_X9_thrown l D cI cZ cG cL am (Q := fun r => r = r5) hth) (cwV 0 hts (gk_gV ml_L_133 im_X9_thrown se_X9_thrown in_X9 co_X9_thrown) rfl rfl rfl (by decide +kernel) ⟨Nat.le_of_ble_eq_true rfl, Nat.le_of_ble_eq_true rfl⟩) (gk_recv hK.1 (mk_obj hW.2.1) rfl) hD hW hK hS rfl hl.1 (rest := []) rfl (lv_room (Nat.le_of_ble_eq_true rfl)) dL_law_1150 ⟨by omega, by omega⟩ (fun r7 μ7 H locs hw7 hW hS => ?_)
      rw [hw7.1] at hW
      have hw7 := hw7.2
      refine lv_iload hx hb dL_law_1153 (lv_at hl 1 rfl) ?_
      refine lv_icmp_eq (tgt := 1160) hx hb dL_law_1155 (by decide) (fun c1155 => ?_) (fun c1155 => ?_)
      · refine lv_iload hx hb dL_law_1160 (lv_at hl 1 rfl) ?_
        refine lv_if_ne (tgt := 1177) hx hb dL_law_1162 (by decide) (fun c1162 => ?_) (fun c1162 => ?_)
        · refine lv_goto (tgt := 2753) hx hb dL_law_1177 (by decide) ?_
          refine W.widen (k := k0 + 60) (n := n0 + 6000) (by omega) (by omega) ?_
          exact kN _ _ _ _ _ _ _ hI hW hS hd0 (lv_sub hl [2, 3, 4, 5, 6] rfl)
        · have ho := ho c1162
          refine lv_aload_n hx hb dL_law_1165 rfl (lv_at hl 5 rfl) ?_
          refine lv_iconst (v := 0) hx hb dL_law_1166 (by decide) ?_
          refine lo_lald hx hb hK hW.2.2 dL_law_1167 ?_
          refine lv_iload hx hb dL_law_1168 (lv_at hl 0 rfl) ?_
          refine lv_i2l (v := r6.toInt64) hx hb dL_law_1170 rfl ?_
          refine lo_lcmp hx hb (ho) dL_law_1171 ?_
          refine lv_if_eq (tgt := 1177) hx hb dL_law_1172 (by decide) (fun c1172 => ?_) (fun c1172 => ?_)
          · refine lv_goto (tgt := 2753) hx hb dL_law_1177 (by decide) ?_
            refine W.widen (k := k0 + 60) (n := n0 + 6000) (by omega) (by omega) ?_
            exact kN _ _ _ _ _ _ _ hI hW hS hd0 (lv_sub hl [2, 3, 4, 5, 6] rfl)
          · exact absurd rfl c1172
      · exact absurd hw7 c1155
    · exact absurd c1079 c1118
  · refine lv_iconst (v := 1) hx hb dL_law_1082 (by decide) ?_
    refine lv_goto (tgt := 1087) hx hb dL_law_1083 (by decide) ?_
    refine lv_aload_n hx hb dL_law_1087 rfl (lv_at hl 0 rfl) ?_
    refine lv_iload hx hb dL_law_1088 (lv_at hl 4 rfl) ?_
    refine lv_iconst (v := 2) hx hb dL_law_1090 (by decide) ?_
    refine lv_iadd hx hb dL_law_1091 ?_
    refine lo_xald hx hb hX hbl hS (hcd 2 (by decide)) dL_law_1092 ?_
    refine lv_aload_n hx hb dL_law_1093 rfl (lv_at hl 0 rfl) ?_
    refine lv_iload hx hb dL_law_1094 (lv_at hl 4 rfl) ?_
    refine lv_iconst (v := 3) hx hb dL_law_1096 (by decide) ?_
    refine lv_iadd hx hb dL_law_1097 ?_
    refine lo_xald hx hb hX hbl hS (hcd 3 (by decide)) dL_law_1098 ?_
    refine lv_aload_n hx hb dL_law_1099 rfl (lv_at hl 0 rfl) ?_
    refine lv_iload hx hb dL_law_1100 (lv_at hl 4 rfl) ?_
    refine lv_iconst (v := 4) hx hb dL_law_1102 (by decide) ?_
    refine lv_iadd hx hb dL_law_1103 ?_
    refine lo_xald hx hb hX hbl hS (hcd 4 (by decide)) dL_law_1104 ?_
    refine lv_aload_n hx hb dL_law_1105 rfl (lv_at hl 3 rfl) ?_
    have hw := hH σ μ o hI (1) ((xs (x4 + 2).toNatClampNeg)) ((xs (x4 + 3).toNatClampNeg)) ((xs (x4 + 4).toNatClampNeg)) (Or.inr rfl)
    refine lo_callL ⟨hx, hb, hml, hown, hts⟩ (c_L_addRule l hfl D cI cZ cG cL ad q1 q2 q3 oa hw) (vx_cwSW 6 hts (gk_gS ml_L_182 st_L_addRule in_L co_L_addRule) rfl rfl rfl (by decide +kernel) ⟨Nat.le_of_ble_eq_true rfl, Nat.le_of_ble_eq_true rfl⟩) hD hW hK hY hN hS rfl hl.1 (rest := []) rfl (lv_room (Nat.le_of_ble_eq_true rfl)) dL_law_1106 ⟨by omega, by omega⟩ (fun r5 σ5 o5 H locs hw hW hS => ?_)
    refine lv_istore (lv' := [(5, .int r5), (0, .ref b), (1, .ref (ad 0)), (2, .ref (am 38)), (3, .ref oa), (4, .int x4)]) hx hb dL_law_1109 hl (by decide) rfl (fun ls hl => ?_)
    refine lv_aload_n hx hb dL_law_1111 rfl (lv_at hl 3 rfl) ?_
    refine lv_aload_n hx hb dL_law_1112 rfl (lv_at hl 1 rfl) ?_
    refine lv_iload hx hb dL_law_1113 (lv_at hl 5 rfl) ?_
    refine lv_iconst (v := 1) hx hb dL_law_1115 (by decide) ?_
    refine lv_iadd hx hb dL_law_1116 ?_
    refine lo_xald hx hb hX hbl hS (hcd 1 (by decide)) dL_law_1117 ?_
    refine lv_if_eq (tgt := 1125) hx hb dL_law_1118 (by decide) (fun c1118 => ?_) (fun c1118 => ?_)
    · exact absurd c1118 c1079
    · refine lv_iconst (v := 1) hx hb dL_law_1121 (by decide) ?_
      refine lv_goto (tgt := 1126) hx hb dL_law_1122 (by decide) ?_
      refine lv_aload_n hx hb dL_law_1126 rfl (lv_at hl 1 rfl) ?_
      refine lv_iload hx hb dL_law_1127 (lv_at hl 5 rfl) ?_
      refine lv_iconst (v := 2) hx hb dL_law_1129 (by decide) ?_
      refine lv_iadd hx hb dL_law_1130 ?_
      refine lo_xald hx hb hX hbl hS (hcd 2 (by decide)) dL_law_1131 ?_
      refine lv_aload_n hx hb dL_law_1132 rfl (lv_at hl 1 rfl) ?_
      refine lv_iload hx hb dL_law_1133 (lv_at hl 5 rfl) ?_
      refine lv_iconst (v := 3) hx hb dL_law_1135 (by decide) ?_
      refine lv_iadd hx hb dL_law_1136 ?_
      refine lo_xald hx hb hX hbl hS (hcd 3 (by decide)) dL_law_1137 ?_
      refine lv_aload_n hx hb dL_law_1138 rfl (lv_at hl 1 rfl) ?_
      refine lv_iload hx hb dL_law_1139 (lv_at hl 5 rfl) ?_
      refine lv_iconst (v := 4) hx hb dL_law_1141 (by decide) ?_
      refine lv_iadd hx hb dL_law_1142 ?_
      refine lo_xald hx hb hX hbl hS (hcd 4 (by decide)) dL_law_1143 ?_
      refine lo_callMi ⟨hx, hb, hml, hown, hts⟩ (c_X9_addRule l D cI cZ cG cL am hw) (cwV 4 hts (gk_gV ml_L_185 im_X9_addRule se_X9_addRule in_X9 co_X9_addRule) rfl rfl rfl (by decide +kernel) ⟨Nat.le_of_ble_eq_true rfl, Nat.le_of_ble_eq_true rfl⟩) (gk_recv hK.1 (mk_obj hW.2.1) rfl) hD hW hK hS rfl hl.1 (rest := []) rfl (lv_room (Nat.le_of_ble_eq_true rfl)) dL_law_1144 ⟨by omega, by omega⟩ (fun r6 μ6 H locs hw hW hS => ?_)
      obtain ⟨hth, ho, hI⟩ := hw
      refine lv_istore (lv' := [(6, .int r6), (5, .int r5), (0, .ref b), (1, .ref (ad 0)), (2, .ref (am 38)), (3, .ref oa), (4, .int x4)]) hx hb dL_law_1147 hl (by decide) rfl (fun ls hl => ?_)
      refine lv_aload_n hx hb dL_law_1149 rfl (lv_at hl 4 rfl) ?_
      refine lo_callMi ⟨hx, hb, hml, hown, hts⟩ (c_X9_thrown l D cI cZ cG cL am (Q := fun r => r = r5) hth) (cwV 0 hts (gk_gV ml_L_133 im_X9_thrown se_X9_thrown in_X9 co_X9_thrown) rfl rfl rfl (by decide +kernel) ⟨Nat.le_of_ble_eq_true rfl, Nat.le_of_ble_eq_true rfl⟩) (gk_recv hK.1 (mk_obj hW.2.1) rfl) hD hW hK hS rfl hl.1 (rest := []) rfl (lv_room (Nat.le_of_ble_eq_true rfl)) dL_law_1150 ⟨by omega, by omega⟩ (fun r7 μ7 H locs hw7 hW hS => ?_)
      rw [hw7.1] at hW
      have hw7 := hw7.2
      refine lv_iload hx hb dL_law_1153 (lv_at hl 1 rfl) ?_
      refine lv_icmp_eq (tgt := 1160) hx hb dL_law_1155 (by decide) (fun c1155 => ?_) (fun c1155 => ?_)
      · refine lv_iload hx hb dL_law_1160 (lv_at hl 1 rfl) ?_
        refine lv_if_ne (tgt := 1177) hx hb dL_law_1162 (by decide) (fun c1162 => ?_) (fun c1162 => ?_)
        · refine lv_goto (tgt := 2753) hx hb dL_law_1177 (by decide) ?_
          refine W.widen (k := k0 + 60) (n := n0 + 6000) (by omega) (by omega) ?_
          exact kN _ _ _ _ _ _ _ hI hW hS hd0 (lv_sub hl [2, 3, 4, 5, 6] rfl)
        · have ho := ho c1162
          refine lv_aload_n hx hb dL_law_1165 rfl (lv_at hl 5 rfl) ?_
          refine lv_iconst (v := 0) hx hb dL_law_1166 (by decide) ?_
          refine lo_lald hx hb hK hW.2.2 dL_law_1167 ?_
          refine lv_iload hx hb dL_law_1168 (lv_at hl 0 rfl) ?_
          refine lv_i2l (v := r6.toInt64) hx hb dL_law_1170 rfl ?_
          refine lo_lcmp hx hb (ho) dL_law_1171 ?_
          refine lv_if_eq (tgt := 1177) hx hb dL_law_1172 (by decide) (fun c1172 => ?_) (fun c1172 => ?_)
          · refine lv_goto (tgt := 2753) hx hb dL_law_1177 (by decide) ?_
            refine W.widen (k := k0 + 60) (n := n0 + 6000) (by omega) (by omega) ?_
            exact kN _ _ _ _ _ _ _ hI hW hS hd0 (lv_sub hl [2, 3, 4, 5, 6] rfl)
          · exact absurd rfl c1172
      · exact absurd hw7 c1155
set_option maxHeartbeats 4000000 in
set_option maxRecDepth 100000 in
theorem lo_case_15 {p : Program} {l : Launch} {e : Env} {s : State} {m : MethodId} {below : List Frame} {meth : Method} {c : Code} {D : va_G} {cI cZ cG cL : ClassId} {ad am : Nat → Nat} {q1 q2 q3 oa b L : Nat} {xs : Nat → Int32} (C0 : lo_C p s m meth c l D cI cZ cG cL ad am q1 q2 q3 oa b L xs) {cs : List Choice} (hnb : nanBits ∈ cs) {I : gk_C → gk_C → Prop} {Q : State → Prop} {x4 : Int32} {k0 n0 : Nat} (hcd : lo_cd L x4) (hk : k0 + 60 ≤ room_1.cells) (hn : n0 + 6000 ≤ room_1.slots) (kN : lo_Next cs I p l e room_1 s m below meth c D cI cZ cL ad am oa b Q x4 (k0 + 60) (n0 + 6000)) (hH : ∀ (σ μ : gk_C) (o : Int64), I σ μ → ∀ (a0 : Int32) (a1 : Int32) (a2 : Int32), (a1 = 0 ∨ a1 = 1) → w_L_setRule σ o a0 a1 a2 (fun k σ1 o1 => w_X9_setRule μ a0 a1 a2 (fun r μ1 => μ1.2 0 = k ∧ (k = 0 → o1 = r.toInt64) ∧ I σ1 μ1))) {σ μ : gk_C} {o : Int64} {H : Heap} {locs : List Loc} {d0 : Drawn} {ls : Array Slot} (hI : I σ μ) (hW : lo_W D cI cZ cL ad am oa σ μ o H) (hS : va_S (lo_A s.heap.size) s.heap H locs) (hd0 : s.drawn.sameBut d0 cs) (hl : lv_has ls 9 [(0, .ref b), (1, .ref (ad 0)), (2, .ref (am 38)), (3, .ref oa), (4, .int x4)]) : W p l e room_1 (s.setDrawn d0) m #[Value.ref b] below meth c H locs k0 n0 Q (F0 m 1180 ls []) := by
  obtain ⟨hx, hb, hml, hown, hts0, hr, hlocks, hfl, hK0, hY0, hN0, hD, hX0, hbl⟩ := C0
  have hts := dr_words hts0 d0
  have hK := hK0.drawn d0
  have hY := hY0.drawn d0
  have hN : gk_NC (s.setDrawn d0) := hN0
  have hX : va_X b L xs (s.setDrawn d0) s.heap := hX0
  refine lv_aload_n hx hb dL_law_1180 rfl (lv_at hl 1 rfl) ?_
  refine lv_aload_n hx hb dL_law_1181 rfl (lv_at hl 0 rfl) ?_
  refine lv_iload hx hb dL_law_1182 (lv_at hl 4 rfl) ?_
  refine lv_iconst (v := 1) hx hb dL_law_1184 (by decide) ?_
  refine lv_iadd hx hb dL_law_1185 ?_
  refine lo_xald hx hb hX hbl hS (hcd 1 (by decide)) dL_law_1186 ?_
  refine lv_aload_n hx hb dL_law_1187 rfl (lv_at hl 0 rfl) ?_
  refine lv_iload hx hb dL_law_1188 (lv_at hl 4 rfl) ?_
  refine lv_iconst (v := 2) hx hb dL_law_1190 (by decide) ?_
  refine lv_iadd hx hb dL_law_1191 ?_
  refine lo_xald hx hb hX hbl hS (hcd 2 (by decide)) dL_law_1192 ?_
  refine lv_if_eq (tgt := 1200) hx hb dL_law_1193 (by decide) (fun c1193 => ?_) (fun c1193 => ?_)
  · refine lv_iconst (v := 0) hx hb dL_law_1200 (by decide) ?_
    refine lv_aload_n hx hb dL_law_1201 rfl (lv_at hl 0 rfl) ?_
    refine lv_iload hx hb dL_law_1202 (lv_at hl 4 rfl) ?_
    refine lv_iconst (v := 3) hx hb dL_law_1204 (by decide) ?_
    refine lv_iadd hx hb dL_law_1205 ?_
    refine lo_xald hx hb hX hbl hS (hcd 3 (by decide)) dL_law_1206 ?_
    refine lv_aload_n hx hb dL_law_1207 rfl (lv_at hl 3 rfl) ?_
    have hw := hH σ μ o hI ((xs (x4 + 1).toNatClampNeg)) (0) ((xs (x4 + 3).toNatClampNeg)) (Or.inl rfl)
    refine lo_callL ⟨hx, hb, hml, hown, hts⟩ (c_L_setRule l hfl D cI cZ cG cL ad q1 q2 q3 oa hw) (vx_cwSW 5 hts (gk_gS ml_L_186 st_L_setRule in_L co_L_setRule) rfl rfl rfl (by decide +kernel) ⟨Nat.le_of_ble_eq_true rfl, Nat.le_of_ble_eq_true rfl⟩) hD hW hK hY hN hS rfl hl.1 (rest := []) rfl (lv_room (Nat.le_of_ble_eq_true rfl)) dL_law_1208 ⟨by omega, by omega⟩ (fun r5 σ5 o5 H locs hw hW hS => ?_)
    refine lv_istore (lv' := [(5, .int r5), (0, .ref b), (1, .ref (ad 0)), (2, .ref (am 38)), (3, .ref oa), (4, .int x4)]) hx hb dL_law_1211 hl (by decide) rfl (fun ls hl => ?_)
    refine lv_aload_n hx hb dL_law_1213 rfl (lv_at hl 3 rfl) ?_
    refine lv_aload_n hx hb dL_law_1214 rfl (lv_at hl 1 rfl) ?_
    refine lv_iload hx hb dL_law_1215 (lv_at hl 5 rfl) ?_
    refine lv_iconst (v := 1) hx hb dL_law_1217 (by decide) ?_
    refine lv_iadd hx hb dL_law_1218 ?_
    refine lo_xald hx hb hX hbl hS (hcd 1 (by decide)) dL_law_1219 ?_
    refine lv_aload_n hx hb dL_law_1220 rfl (lv_at hl 1 rfl) ?_
    refine lv_iload hx hb dL_law_1221 (lv_at hl 5 rfl) ?_
    refine lv_iconst (v := 2) hx hb dL_law_1223 (by decide) ?_
    refine lv_iadd hx hb dL_law_1224 ?_
    refine lo_xald hx hb hX hbl hS (hcd 2 (by decide)) dL_law_1225 ?_
    refine lv_if_eq (tgt := 1233) hx hb dL_law_1226 (by decide) (fun c1226 => ?_) (fun c1226 => ?_)
    · refine lv_iconst (v := 0) hx hb dL_law_1233 (by decide) ?_
      refine lv_aload_n hx hb dL_law_1234 rfl (lv_at hl 1 rfl) ?_
      refine lv_iload hx hb dL_law_1235 (lv_at hl 5 rfl) ?_
      refine lv_iconst (v := 3) hx hb dL_law_1237 (by decide) ?_
      refine lv_iadd hx hb dL_law_1238 ?_
      refine lo_xald hx hb hX hbl hS (hcd 3 (by decide)) dL_law_1239 ?_
      refine lo_callMi ⟨hx, hb, hml, hown, hts⟩ (c_X9_setRule l D cI cZ cG cL am hw) (cwV 3 hts (gk_gV ml_L_189 im_X9_setRule se_X9_setRule in_X9 co_X9_setRule) rfl rfl rfl (by decide +kernel) ⟨Nat.le_of_ble_eq_true rfl, Nat.le_of_ble_eq_true rfl⟩) (gk_recv hK.1 (mk_obj hW.2.1) rfl) hD hW hK hS rfl hl.1 (rest := []) rfl (lv_room (Nat.le_of_ble_eq_true rfl)) dL_law_1240 ⟨by omega, by omega⟩ (fun r6 μ6 H locs hw hW hS => ?_)
      obtain ⟨hth, ho, hI⟩ := hw
      refine lv_istore (lv' := [(6, .int r6), (5, .int r5), (0, .ref b), (1, .ref (ad 0)), (2, .ref (am 38)), (3, .ref oa), (4, .int x4)]) hx hb dL_law_1243 hl (by decide) rfl (fun ls hl => ?_)
      refine lv_aload_n hx hb dL_law_1245 rfl (lv_at hl 4 rfl) ?_
      refine lo_callMi ⟨hx, hb, hml, hown, hts⟩ (c_X9_thrown l D cI cZ cG cL am (Q := fun r => r = r5) hth) (cwV 0 hts (gk_gV ml_L_133 im_X9_thrown se_X9_thrown in_X9 co_X9_thrown) rfl rfl rfl (by decide +kernel) ⟨Nat.le_of_ble_eq_true rfl, Nat.le_of_ble_eq_true rfl⟩) (gk_recv hK.1 (mk_obj hW.2.1) rfl) hD hW hK hS rfl hl.1 (rest := []) rfl (lv_room (Nat.le_of_ble_eq_true rfl)) dL_law_1246 ⟨by omega, by omega⟩ (fun r7 μ7 H locs hw7 hW hS => ?_)
      rw [hw7.1] at hW
      have hw7 := hw7.2
      refine lv_iload hx hb dL_law_1249 (lv_at hl 1 rfl) ?_
      refine lv_icmp_eq (tgt := 1256) hx hb dL_law_1251 (by decide) (fun c1251 => ?_) (fun c1251 => ?_)
      · refine lv_iload hx hb dL_law_1256 (lv_at hl 1 rfl) ?_
        refine lv_if_ne (tgt := 1273) hx hb dL_law_1258 (by decide) (fun c1258 => ?_) (fun c1258 => ?_)
        · refine lv_goto (tgt := 2753) hx hb dL_law_1273 (by decide) ?_
          refine W.widen (k := k0 + 60) (n := n0 + 6000) (by omega) (by omega) ?_
          exact kN _ _ _ _ _ _ _ hI hW hS hd0 (lv_sub hl [2, 3, 4, 5, 6] rfl)
        · have ho := ho c1258
          refine lv_aload_n hx hb dL_law_1261 rfl (lv_at hl 5 rfl) ?_
          refine lv_iconst (v := 0) hx hb dL_law_1262 (by decide) ?_
          refine lo_lald hx hb hK hW.2.2 dL_law_1263 ?_
          refine lv_iload hx hb dL_law_1264 (lv_at hl 0 rfl) ?_
          refine lv_i2l (v := r6.toInt64) hx hb dL_law_1266 rfl ?_
          refine lo_lcmp hx hb (ho) dL_law_1267 ?_
          refine lv_if_eq (tgt := 1273) hx hb dL_law_1268 (by decide) (fun c1268 => ?_) (fun c1268 => ?_)
          · refine lv_goto (tgt := 2753) hx hb dL_law_1273 (by decide) ?_
            refine W.widen (k := k0 + 60) (n := n0 + 6000) (by omega) (by omega) ?_
            exact kN _ _ _ _ _ _ _ hI hW hS hd0 (lv_sub hl [2, 3, 4, 5, 6] rfl)
          · exact absurd rfl c1268
      · exact absurd hw7 c1251
    · exact absurd c1193 c1226
  · refine lv_iconst (v := 1) hx hb dL_law_1196 (by decide) ?_
    refine lv_goto (tgt := 1201) hx hb dL_law_1197 (by decide) ?_
    refine lv_aload_n hx hb dL_law_1201 rfl (lv_at hl 0 rfl) ?_
    refine lv_iload hx hb dL_law_1202 (lv_at hl 4 rfl) ?_
    refine lv_iconst (v := 3) hx hb dL_law_1204 (by decide) ?_
    refine lv_iadd hx hb dL_law_1205 ?_
    refine lo_xald hx hb hX hbl hS (hcd 3 (by decide)) dL_law_1206 ?_
    refine lv_aload_n hx hb dL_law_1207 rfl (lv_at hl 3 rfl) ?_
    have hw := hH σ μ o hI ((xs (x4 + 1).toNatClampNeg)) (1) ((xs (x4 + 3).toNatClampNeg)) (Or.inr rfl)
    refine lo_callL ⟨hx, hb, hml, hown, hts⟩ (c_L_setRule l hfl D cI cZ cG cL ad q1 q2 q3 oa hw) (vx_cwSW 5 hts (gk_gS ml_L_186 st_L_setRule in_L co_L_setRule) rfl rfl rfl (by decide +kernel) ⟨Nat.le_of_ble_eq_true rfl, Nat.le_of_ble_eq_true rfl⟩) hD hW hK hY hN hS rfl hl.1 (rest := []) rfl (lv_room (Nat.le_of_ble_eq_true rfl)) dL_law_1208 ⟨by omega, by omega⟩ (fun r5 σ5 o5 H locs hw hW hS => ?_)
    refine lv_istore (lv' := [(5, .int r5), (0, .ref b), (1, .ref (ad 0)), (2, .ref (am 38)), (3, .ref oa), (4, .int x4)]) hx hb dL_law_1211 hl (by decide) rfl (fun ls hl => ?_)
    refine lv_aload_n hx hb dL_law_1213 rfl (lv_at hl 3 rfl) ?_
    refine lv_aload_n hx hb dL_law_1214 rfl (lv_at hl 1 rfl) ?_
    refine lv_iload hx hb dL_law_1215 (lv_at hl 5 rfl) ?_
    refine lv_iconst (v := 1) hx hb dL_law_1217 (by decide) ?_
    refine lv_iadd hx hb dL_law_1218 ?_
    refine lo_xald hx hb hX hbl hS (hcd 1 (by decide)) dL_law_1219 ?_
    refine lv_aload_n hx hb dL_law_1220 rfl (lv_at hl 1 rfl) ?_
    refine lv_iload hx hb dL_law_1221 (lv_at hl 5 rfl) ?_
    refine lv_iconst (v := 2) hx hb dL_law_1223 (by decide) ?_
    refine lv_iadd hx hb dL_law_1224 ?_
    refine lo_xald hx hb hX hbl hS (hcd 2 (by decide)) dL_law_1225 ?_
    refine lv_if_eq (tgt := 1233) hx hb dL_law_1226 (by decide) (fun c1226 => ?_) (fun c1226 => ?_)
    · exact absurd c1226 c1193
    · refine lv_iconst (v := 1) hx hb dL_law_1229 (by decide) ?_
      refine lv_goto (tgt := 1234) hx hb dL_law_1230 (by decide) ?_
      refine lv_aload_n hx hb dL_law_1234 rfl (lv_at hl 1 rfl) ?_
      refine lv_iload hx hb dL_law_1235 (lv_at hl 5 rfl) ?_
      refine lv_iconst (v := 3) hx hb dL_law_1237 (by decide) ?_
      refine lv_iadd hx hb dL_law_1238 ?_
      refine lo_xald hx hb hX hbl hS (hcd 3 (by decide)) dL_law_1239 ?_
      refine lo_callMi ⟨hx, hb, hml, hown, hts⟩ (c_X9_setRule l D cI cZ cG cL am hw) (cwV 3 hts (gk_gV ml_L_189 im_X9_setRule se_X9_setRule in_X9 co_X9_setRule) rfl rfl rfl (by decide +kernel) ⟨Nat.le_of_ble_eq_true rfl, Nat.le_of_ble_eq_true rfl⟩) (gk_recv hK.1 (mk_obj hW.2.1) rfl) hD hW hK hS rfl hl.1 (rest := []) rfl (lv_room (Nat.le_of_ble_eq_true rfl)) dL_law_1240 ⟨by omega, by omega⟩ (fun r6 μ6 H locs hw hW hS => ?_)
      obtain ⟨hth, ho, hI⟩ := hw
      refine lv_istore (lv' := [(6, .int r6), (5, .int r5), (0, .ref b), (1, .ref (ad 0)), (2, .ref (am 38)), (3, .ref oa), (4, .int x4)]) hx hb dL_law_1243 hl (by decide) rfl (fun ls hl => ?_)
      refine lv_aload_n hx hb dL_law_1245 rfl (lv_at hl 4 rfl) ?_
      refine lo_callMi ⟨hx, hb, hml, hown, hts⟩ (c_X9_thrown l D cI cZ cG cL am (Q := fun r => r = r5) hth) (cwV 0 hts (gk_gV ml_L_133 im_X9_thrown se_X9_thrown in_X9 co_X9_thrown) rfl rfl rfl (by decide +kernel) ⟨Nat.le_of_ble_eq_true rfl, Nat.le_of_ble_eq_true rfl⟩) (gk_recv hK.1 (mk_obj hW.2.1) rfl) hD hW hK hS rfl hl.1 (rest := []) rfl (lv_room (Nat.le_of_ble_eq_true rfl)) dL_law_1246 ⟨by omega, by omega⟩ (fun r7 μ7 H locs hw7 hW hS => ?_)
      rw [hw7.1] at hW
      have hw7 := hw7.2
      refine lv_iload hx hb dL_law_1249 (lv_at hl 1 rfl) ?_
      refine lv_icmp_eq (tgt := 1256) hx hb dL_law_1251 (by decide) (fun c1251 => ?_) (fun c1251 => ?_)
      · refine lv_iload hx hb dL_law_1256 (lv_at hl 1 rfl) ?_
        refine lv_if_ne (tgt := 1273) hx hb dL_law_1258 (by decide) (fun c1258 => ?_) (fun c1258 => ?_)
        · refine lv_goto (tgt := 2753) hx hb dL_law_1273 (by decide) ?_
          refine W.widen (k := k0 + 60) (n := n0 + 6000) (by omega) (by omega) ?_
          exact kN _ _ _ _ _ _ _ hI hW hS hd0 (lv_sub hl [2, 3, 4, 5, 6] rfl)
        · have ho := ho c1258
          refine lv_aload_n hx hb dL_law_1261 rfl (lv_at hl 5 rfl) ?_
          refine lv_iconst (v := 0) hx hb dL_law_1262 (by decide) ?_
          refine lo_lald hx hb hK hW.2.2 dL_law_1263 ?_
          refine lv_iload hx hb dL_law_1264 (lv_at hl 0 rfl) ?_
          refine lv_i2l (v := r6.toInt64) hx hb dL_law_1266 rfl ?_
          refine lo_lcmp hx hb (ho) dL_law_1267 ?_
          refine lv_if_eq (tgt := 1273) hx hb dL_law_1268 (by decide) (fun c1268 => ?_) (fun c1268 => ?_)
          · refine lv_goto (tgt := 2753) hx hb dL_law_1273 (by decide) ?_
            refine W.widen (k := k0 + 60) (n := n0 + 6000) (by omega) (by omega) ?_
            exact kN _ _ _ _ _ _ _ hI hW hS hd0 (lv_sub hl [2, 3, 4, 5, 6] rfl)
          · exact absurd rfl c1268
      · exact absurd hw7 c1251
set_option maxHeartbeats 4000000 in
set_option maxRecDepth 100000 in
theorem lo_case_16 {p : Program} {l : Launch} {e : Env} {s : State} {m : MethodId} {below : List Frame} {meth : Method} {c : Code} {D : va_G} {cI cZ cG cL : ClassId} {ad am : Nat → Nat} {q1 q2 q3 oa b L : Nat} {xs : Nat → Int32} (C0 : lo_C p s m meth c l D cI cZ cG cL ad am q1 q2 q3 oa b L xs) {cs : List Choice} (hnb : nanBits ∈ cs) {I : gk_C → gk_C → Prop} {Q : State → Prop} {x4 : Int32} {k0 n0 : Nat} (hcd : lo_cd L x4) (hk : k0 + 60 ≤ room_1.cells) (hn : n0 + 6000 ≤ room_1.slots) (kN : lo_Next cs I p l e room_1 s m below meth c D cI cZ cL ad am oa b Q x4 (k0 + 60) (n0 + 6000)) (hH : ∀ (σ μ : gk_C) (o : Int64), I σ μ → ∀ (a0 : Int32) (a1 : Int32) (a2 : Int32) (a3 : Int32), w_L_setTerms σ o a0 a1 a2 a3 (fun k σ1 o1 => w_X9_setTerms μ a0 a1 a2 a3 (fun r μ1 => μ1.2 0 = k ∧ (k = 0 → o1 = r.toInt64) ∧ I σ1 μ1))) {σ μ : gk_C} {o : Int64} {H : Heap} {locs : List Loc} {d0 : Drawn} {ls : Array Slot} (hI : I σ μ) (hW : lo_W D cI cZ cL ad am oa σ μ o H) (hS : va_S (lo_A s.heap.size) s.heap H locs) (hd0 : s.drawn.sameBut d0 cs) (hl : lv_has ls 9 [(0, .ref b), (1, .ref (ad 0)), (2, .ref (am 38)), (3, .ref oa), (4, .int x4)]) : W p l e room_1 (s.setDrawn d0) m #[Value.ref b] below meth c H locs k0 n0 Q (F0 m 1276 ls []) := by
  obtain ⟨hx, hb, hml, hown, hts0, hr, hlocks, hfl, hK0, hY0, hN0, hD, hX0, hbl⟩ := C0
  have hts := dr_words hts0 d0
  have hK := hK0.drawn d0
  have hY := hY0.drawn d0
  have hN : gk_NC (s.setDrawn d0) := hN0
  have hX : va_X b L xs (s.setDrawn d0) s.heap := hX0
  refine lv_aload_n hx hb dL_law_1276 rfl (lv_at hl 1 rfl) ?_
  refine lv_aload_n hx hb dL_law_1277 rfl (lv_at hl 0 rfl) ?_
  refine lv_iload hx hb dL_law_1278 (lv_at hl 4 rfl) ?_
  refine lv_iconst (v := 1) hx hb dL_law_1280 (by decide) ?_
  refine lv_iadd hx hb dL_law_1281 ?_
  refine lo_xald hx hb hX hbl hS (hcd 1 (by decide)) dL_law_1282 ?_
  refine lv_aload_n hx hb dL_law_1283 rfl (lv_at hl 0 rfl) ?_
  refine lv_iload hx hb dL_law_1284 (lv_at hl 4 rfl) ?_
  refine lv_iconst (v := 2) hx hb dL_law_1286 (by decide) ?_
  refine lv_iadd hx hb dL_law_1287 ?_
  refine lo_xald hx hb hX hbl hS (hcd 2 (by decide)) dL_law_1288 ?_
  refine lv_aload_n hx hb dL_law_1289 rfl (lv_at hl 0 rfl) ?_
  refine lv_iload hx hb dL_law_1290 (lv_at hl 4 rfl) ?_
  refine lv_iconst (v := 3) hx hb dL_law_1292 (by decide) ?_
  refine lv_iadd hx hb dL_law_1293 ?_
  refine lo_xald hx hb hX hbl hS (hcd 3 (by decide)) dL_law_1294 ?_
  refine lv_aload_n hx hb dL_law_1295 rfl (lv_at hl 0 rfl) ?_
  refine lv_iload hx hb dL_law_1296 (lv_at hl 4 rfl) ?_
  refine lv_iconst (v := 4) hx hb dL_law_1298 (by decide) ?_
  refine lv_iadd hx hb dL_law_1299 ?_
  refine lo_xald hx hb hX hbl hS (hcd 4 (by decide)) dL_law_1300 ?_
  refine lv_aload_n hx hb dL_law_1301 rfl (lv_at hl 3 rfl) ?_
  have hw := hH σ μ o hI ((xs (x4 + 1).toNatClampNeg)) ((xs (x4 + 2).toNatClampNeg)) ((xs (x4 + 3).toNatClampNeg)) ((xs (x4 + 4).toNatClampNeg))
  refine lo_callL ⟨hx, hb, hml, hown, hts⟩ (c_L_setTerms l hfl D cI cZ cG cL ad q1 q2 q3 oa hw) (vx_cwSW 6 hts (gk_gS ml_L_190 st_L_setTerms in_L co_L_setTerms) rfl rfl rfl (by decide +kernel) ⟨Nat.le_of_ble_eq_true rfl, Nat.le_of_ble_eq_true rfl⟩) hD hW hK hY hN hS rfl hl.1 (rest := []) rfl (lv_room (Nat.le_of_ble_eq_true rfl)) dL_law_1302 ⟨by omega, by omega⟩ (fun r5 σ5 o5 H locs hw hW hS => ?_)
  refine lv_istore (lv' := [(5, .int r5), (0, .ref b), (1, .ref (ad 0)), (2, .ref (am 38)), (3, .ref oa), (4, .int x4)]) hx hb dL_law_1305 hl (by decide) rfl (fun ls hl => ?_)
  refine lv_aload_n hx hb dL_law_1307 rfl (lv_at hl 3 rfl) ?_
  refine lv_aload_n hx hb dL_law_1308 rfl (lv_at hl 1 rfl) ?_
  refine lv_iload hx hb dL_law_1309 (lv_at hl 5 rfl) ?_
  refine lv_iconst (v := 1) hx hb dL_law_1311 (by decide) ?_
  refine lv_iadd hx hb dL_law_1312 ?_
  refine lo_xald hx hb hX hbl hS (hcd 1 (by decide)) dL_law_1313 ?_
  refine lv_aload_n hx hb dL_law_1314 rfl (lv_at hl 1 rfl) ?_
  refine lv_iload hx hb dL_law_1315 (lv_at hl 5 rfl) ?_
  refine lv_iconst (v := 2) hx hb dL_law_1317 (by decide) ?_
  refine lv_iadd hx hb dL_law_1318 ?_
  refine lo_xald hx hb hX hbl hS (hcd 2 (by decide)) dL_law_1319 ?_
  refine lv_aload_n hx hb dL_law_1320 rfl (lv_at hl 1 rfl) ?_
  refine lv_iload hx hb dL_law_1321 (lv_at hl 5 rfl) ?_
  refine lv_iconst (v := 3) hx hb dL_law_1323 (by decide) ?_
  refine lv_iadd hx hb dL_law_1324 ?_
  refine lo_xald hx hb hX hbl hS (hcd 3 (by decide)) dL_law_1325 ?_
  refine lv_aload_n hx hb dL_law_1326 rfl (lv_at hl 1 rfl) ?_
  refine lv_iload hx hb dL_law_1327 (lv_at hl 5 rfl) ?_
  refine lv_iconst (v := 4) hx hb dL_law_1329 (by decide) ?_
  refine lv_iadd hx hb dL_law_1330 ?_
  refine lo_xald hx hb hX hbl hS (hcd 4 (by decide)) dL_law_1331 ?_
  refine lo_callMi ⟨hx, hb, hml, hown, hts⟩ (c_X9_setTerms l D cI cZ cG cL am hw) (cwV 4 hts (gk_gV ml_L_193 im_X9_setTerms se_X9_setTerms in_X9 co_X9_setTerms) rfl rfl rfl (by decide +kernel) ⟨Nat.le_of_ble_eq_true rfl, Nat.le_of_ble_eq_true rfl⟩) (gk_recv hK.1 (mk_obj hW.2.1) rfl) hD hW hK hS rfl hl.1 (rest := []) rfl (lv_room (Nat.le_of_ble_eq_true rfl)) dL_law_1332 ⟨by omega, by omega⟩ (fun r6 μ6 H locs hw hW hS => ?_)
  obtain ⟨hth, ho, hI⟩ := hw
  refine lv_istore (lv' := [(6, .int r6), (5, .int r5), (0, .ref b), (1, .ref (ad 0)), (2, .ref (am 38)), (3, .ref oa), (4, .int x4)]) hx hb dL_law_1335 hl (by decide) rfl (fun ls hl => ?_)
  refine lv_aload_n hx hb dL_law_1337 rfl (lv_at hl 4 rfl) ?_
  refine lo_callMi ⟨hx, hb, hml, hown, hts⟩ (c_X9_thrown l D cI cZ cG cL am (Q := fun r => r = r5) hth) (cwV 0 hts (gk_gV ml_L_133 im_X9_thrown se_X9_thrown in_X9 co_X9_thrown) rfl rfl rfl (by decide +kernel) ⟨Nat.le_of_ble_eq_true rfl, Nat.le_of_ble_eq_true rfl⟩) (gk_recv hK.1 (mk_obj hW.2.1) rfl) hD hW hK hS rfl hl.1 (rest := []) rfl (lv_room (Nat.le_of_ble_eq_true rfl)) dL_law_1338 ⟨by omega, by omega⟩ (fun r7 μ7 H locs hw7 hW hS => ?_)
  rw [hw7.1] at hW
  have hw7 := hw7.2
  refine lv_iload hx hb dL_law_1341 (lv_at hl 1 rfl) ?_
  refine lv_icmp_eq (tgt := 1348) hx hb dL_law_1343 (by decide) (fun c1343 => ?_) (fun c1343 => ?_)
  · refine lv_iload hx hb dL_law_1348 (lv_at hl 1 rfl) ?_
    refine lv_if_ne (tgt := 1365) hx hb dL_law_1350 (by decide) (fun c1350 => ?_) (fun c1350 => ?_)
    · refine lv_goto (tgt := 2753) hx hb dL_law_1365 (by decide) ?_
      refine W.widen (k := k0 + 60) (n := n0 + 6000) (by omega) (by omega) ?_
      exact kN _ _ _ _ _ _ _ hI hW hS hd0 (lv_sub hl [2, 3, 4, 5, 6] rfl)
    · have ho := ho c1350
      refine lv_aload_n hx hb dL_law_1353 rfl (lv_at hl 5 rfl) ?_
      refine lv_iconst (v := 0) hx hb dL_law_1354 (by decide) ?_
      refine lo_lald hx hb hK hW.2.2 dL_law_1355 ?_
      refine lv_iload hx hb dL_law_1356 (lv_at hl 0 rfl) ?_
      refine lv_i2l (v := r6.toInt64) hx hb dL_law_1358 rfl ?_
      refine lo_lcmp hx hb (ho) dL_law_1359 ?_
      refine lv_if_eq (tgt := 1365) hx hb dL_law_1360 (by decide) (fun c1360 => ?_) (fun c1360 => ?_)
      · refine lv_goto (tgt := 2753) hx hb dL_law_1365 (by decide) ?_
        refine W.widen (k := k0 + 60) (n := n0 + 6000) (by omega) (by omega) ?_
        exact kN _ _ _ _ _ _ _ hI hW hS hd0 (lv_sub hl [2, 3, 4, 5, 6] rfl)
      · exact absurd rfl c1360
  · exact absurd hw7 c1343
set_option maxHeartbeats 4000000 in
set_option maxRecDepth 100000 in
theorem lo_case_17 {p : Program} {l : Launch} {e : Env} {s : State} {m : MethodId} {below : List Frame} {meth : Method} {c : Code} {D : va_G} {cI cZ cG cL : ClassId} {ad am : Nat → Nat} {q1 q2 q3 oa b L : Nat} {xs : Nat → Int32} (C0 : lo_C p s m meth c l D cI cZ cG cL ad am q1 q2 q3 oa b L xs) {cs : List Choice} (hnb : nanBits ∈ cs) {I : gk_C → gk_C → Prop} {Q : State → Prop} {x4 : Int32} {k0 n0 : Nat} (hcd : lo_cd L x4) (hk : k0 + 60 ≤ room_1.cells) (hn : n0 + 6000 ≤ room_1.slots) (kN : lo_Next cs I p l e room_1 s m below meth c D cI cZ cL ad am oa b Q x4 (k0 + 60) (n0 + 6000)) (hH : ∀ (σ μ : gk_C) (o : Int64), I σ μ → ∀ (a0 : Int32), w_L_dropRule σ o a0 (fun k σ1 o1 => w_X9_dropRule μ a0 (fun r μ1 => μ1.2 0 = k ∧ (k = 0 → o1 = r.toInt64) ∧ I σ1 μ1))) {σ μ : gk_C} {o : Int64} {H : Heap} {locs : List Loc} {d0 : Drawn} {ls : Array Slot} (hI : I σ μ) (hW : lo_W D cI cZ cL ad am oa σ μ o H) (hS : va_S (lo_A s.heap.size) s.heap H locs) (hd0 : s.drawn.sameBut d0 cs) (hl : lv_has ls 9 [(0, .ref b), (1, .ref (ad 0)), (2, .ref (am 38)), (3, .ref oa), (4, .int x4)]) : W p l e room_1 (s.setDrawn d0) m #[Value.ref b] below meth c H locs k0 n0 Q (F0 m 1368 ls []) := by
  obtain ⟨hx, hb, hml, hown, hts0, hr, hlocks, hfl, hK0, hY0, hN0, hD, hX0, hbl⟩ := C0
  have hts := dr_words hts0 d0
  have hK := hK0.drawn d0
  have hY := hY0.drawn d0
  have hN : gk_NC (s.setDrawn d0) := hN0
  have hX : va_X b L xs (s.setDrawn d0) s.heap := hX0
  refine lv_aload_n hx hb dL_law_1368 rfl (lv_at hl 1 rfl) ?_
  refine lv_aload_n hx hb dL_law_1369 rfl (lv_at hl 0 rfl) ?_
  refine lv_iload hx hb dL_law_1370 (lv_at hl 4 rfl) ?_
  refine lv_iconst (v := 1) hx hb dL_law_1372 (by decide) ?_
  refine lv_iadd hx hb dL_law_1373 ?_
  refine lo_xald hx hb hX hbl hS (hcd 1 (by decide)) dL_law_1374 ?_
  refine lv_aload_n hx hb dL_law_1375 rfl (lv_at hl 3 rfl) ?_
  have hw := hH σ μ o hI ((xs (x4 + 1).toNatClampNeg))
  refine lo_callL ⟨hx, hb, hml, hown, hts⟩ (c_L_dropRule l hfl D cI cZ cG cL ad q1 q2 q3 oa hw) (vx_cwSW 3 hts (gk_gS ml_L_194 st_L_dropRule in_L co_L_dropRule) rfl rfl rfl (by decide +kernel) ⟨Nat.le_of_ble_eq_true rfl, Nat.le_of_ble_eq_true rfl⟩) hD hW hK hY hN hS rfl hl.1 (rest := []) rfl (lv_room (Nat.le_of_ble_eq_true rfl)) dL_law_1376 ⟨by omega, by omega⟩ (fun r5 σ5 o5 H locs hw hW hS => ?_)
  refine lv_istore (lv' := [(5, .int r5), (0, .ref b), (1, .ref (ad 0)), (2, .ref (am 38)), (3, .ref oa), (4, .int x4)]) hx hb dL_law_1379 hl (by decide) rfl (fun ls hl => ?_)
  refine lv_aload_n hx hb dL_law_1381 rfl (lv_at hl 3 rfl) ?_
  refine lv_aload_n hx hb dL_law_1382 rfl (lv_at hl 1 rfl) ?_
  refine lv_iload hx hb dL_law_1383 (lv_at hl 5 rfl) ?_
  refine lv_iconst (v := 1) hx hb dL_law_1385 (by decide) ?_
  refine lv_iadd hx hb dL_law_1386 ?_
  refine lo_xald hx hb hX hbl hS (hcd 1 (by decide)) dL_law_1387 ?_
  refine lo_callMi ⟨hx, hb, hml, hown, hts⟩ (c_X9_dropRule l D cI cZ cG cL am hw) (cwV 1 hts (gk_gV ml_L_196 im_X9_dropRule se_X9_dropRule in_X9 co_X9_dropRule) rfl rfl rfl (by decide +kernel) ⟨Nat.le_of_ble_eq_true rfl, Nat.le_of_ble_eq_true rfl⟩) (gk_recv hK.1 (mk_obj hW.2.1) rfl) hD hW hK hS rfl hl.1 (rest := []) rfl (lv_room (Nat.le_of_ble_eq_true rfl)) dL_law_1388 ⟨by omega, by omega⟩ (fun r6 μ6 H locs hw hW hS => ?_)
  obtain ⟨hth, ho, hI⟩ := hw
  refine lv_istore (lv' := [(6, .int r6), (5, .int r5), (0, .ref b), (1, .ref (ad 0)), (2, .ref (am 38)), (3, .ref oa), (4, .int x4)]) hx hb dL_law_1391 hl (by decide) rfl (fun ls hl => ?_)
  refine lv_aload_n hx hb dL_law_1393 rfl (lv_at hl 4 rfl) ?_
  refine lo_callMi ⟨hx, hb, hml, hown, hts⟩ (c_X9_thrown l D cI cZ cG cL am (Q := fun r => r = r5) hth) (cwV 0 hts (gk_gV ml_L_133 im_X9_thrown se_X9_thrown in_X9 co_X9_thrown) rfl rfl rfl (by decide +kernel) ⟨Nat.le_of_ble_eq_true rfl, Nat.le_of_ble_eq_true rfl⟩) (gk_recv hK.1 (mk_obj hW.2.1) rfl) hD hW hK hS rfl hl.1 (rest := []) rfl (lv_room (Nat.le_of_ble_eq_true rfl)) dL_law_1394 ⟨by omega, by omega⟩ (fun r7 μ7 H locs hw7 hW hS => ?_)
  rw [hw7.1] at hW
  have hw7 := hw7.2
  refine lv_iload hx hb dL_law_1397 (lv_at hl 1 rfl) ?_
  refine lv_icmp_eq (tgt := 1404) hx hb dL_law_1399 (by decide) (fun c1399 => ?_) (fun c1399 => ?_)
  · refine lv_iload hx hb dL_law_1404 (lv_at hl 1 rfl) ?_
    refine lv_if_ne (tgt := 1421) hx hb dL_law_1406 (by decide) (fun c1406 => ?_) (fun c1406 => ?_)
    · refine lv_goto (tgt := 2753) hx hb dL_law_1421 (by decide) ?_
      refine W.widen (k := k0 + 60) (n := n0 + 6000) (by omega) (by omega) ?_
      exact kN _ _ _ _ _ _ _ hI hW hS hd0 (lv_sub hl [2, 3, 4, 5, 6] rfl)
    · have ho := ho c1406
      refine lv_aload_n hx hb dL_law_1409 rfl (lv_at hl 5 rfl) ?_
      refine lv_iconst (v := 0) hx hb dL_law_1410 (by decide) ?_
      refine lo_lald hx hb hK hW.2.2 dL_law_1411 ?_
      refine lv_iload hx hb dL_law_1412 (lv_at hl 0 rfl) ?_
      refine lv_i2l (v := r6.toInt64) hx hb dL_law_1414 rfl ?_
      refine lo_lcmp hx hb (ho) dL_law_1415 ?_
      refine lv_if_eq (tgt := 1421) hx hb dL_law_1416 (by decide) (fun c1416 => ?_) (fun c1416 => ?_)
      · refine lv_goto (tgt := 2753) hx hb dL_law_1421 (by decide) ?_
        refine W.widen (k := k0 + 60) (n := n0 + 6000) (by omega) (by omega) ?_
        exact kN _ _ _ _ _ _ _ hI hW hS hd0 (lv_sub hl [2, 3, 4, 5, 6] rfl)
      · exact absurd rfl c1416
  · exact absurd hw7 c1399
set_option maxHeartbeats 4000000 in
set_option maxRecDepth 100000 in
theorem lo_case_18 {p : Program} {l : Launch} {e : Env} {s : State} {m : MethodId} {below : List Frame} {meth : Method} {c : Code} {D : va_G} {cI cZ cG cL : ClassId} {ad am : Nat → Nat} {q1 q2 q3 oa b L : Nat} {xs : Nat → Int32} (C0 : lo_C p s m meth c l D cI cZ cG cL ad am q1 q2 q3 oa b L xs) {cs : List Choice} (hnb : nanBits ∈ cs) {I : gk_C → gk_C → Prop} {Q : State → Prop} {x4 : Int32} {k0 n0 : Nat} (hcd : lo_cd L x4) (hk : k0 + 60 ≤ room_1.cells) (hn : n0 + 6000 ≤ room_1.slots) (kN : lo_Next cs I p l e room_1 s m below meth c D cI cZ cL ad am oa b Q x4 (k0 + 60) (n0 + 6000)) (hH : ∀ (σ μ : gk_C), I σ μ → w_X8_rules σ (fun r => w_X9_rules μ (fun r1 μ1 => r = r1 ∧ I σ μ1))) {σ μ : gk_C} {o : Int64} {H : Heap} {locs : List Loc} {d0 : Drawn} {ls : Array Slot} (hI : I σ μ) (hW : lo_W D cI cZ cL ad am oa σ μ o H) (hS : va_S (lo_A s.heap.size) s.heap H locs) (hd0 : s.drawn.sameBut d0 cs) (hl : lv_has ls 9 [(0, .ref b), (1, .ref (ad 0)), (2, .ref (am 38)), (3, .ref oa), (4, .int x4)]) : W p l e room_1 (s.setDrawn d0) m #[Value.ref b] below meth c H locs k0 n0 Q (F0 m 1424 ls []) := by
  obtain ⟨hx, hb, hml, hown, hts0, hr, hlocks, hfl, hK0, hY0, hN0, hD, hX0, hbl⟩ := C0
  have hts := dr_words hts0 d0
  have hK := hK0.drawn d0
  have hY := hY0.drawn d0
  have hN : gk_NC (s.setDrawn d0) := hN0
  have hX : va_X b L xs (s.setDrawn d0) s.heap := hX0
  refine lv_aload_n hx hb dL_law_1424 rfl (lv_at hl 1 rfl) ?_
  have hw := hH σ μ hI
  refine lo_callGi ⟨hx, hb, hml, hown, hts⟩ (c_X8_rules l D cI cZ cG cL ad hw) (cwV 0 hts (gk_gV ml_L_197 im_X8_rules se_X8_rules in_X8 co_X8_rules) rfl rfl rfl (by decide +kernel) ⟨Nat.le_of_ble_eq_true rfl, Nat.le_of_ble_eq_true rfl⟩) (gk_recv hK.1 (gk_o0 hW.1) rfl) hD hW hK hS rfl hl.1 (rest := []) rfl (lv_room (Nat.le_of_ble_eq_true rfl)) dL_law_1425 ⟨by omega, by omega⟩ (fun r5 σ5 H locs hw hW hS => ?_)
  rw [hw.1] at hW
  have hw := hw.2
  refine lv_aload_n hx hb dL_law_1428 rfl (lv_at hl 2 rfl) ?_
  refine lo_callMi ⟨hx, hb, hml, hown, hts⟩ (c_X9_rules l D cI cZ cG cL am hw) (cwV 0 hts (gk_gV ml_L_200 im_X9_rules se_X9_rules in_X9 co_X9_rules) rfl rfl rfl (by decide +kernel) ⟨Nat.le_of_ble_eq_true rfl, Nat.le_of_ble_eq_true rfl⟩) (gk_recv hK.1 (mk_obj hW.2.1) rfl) hD hW hK hS rfl hl.1 (rest := [.int r5]) rfl (lv_room (Nat.le_of_ble_eq_true rfl)) dL_law_1429 ⟨by omega, by omega⟩ (fun r6 μ6 H locs hw hW hS => ?_)
  obtain ⟨he, hI⟩ := hw
  refine lv_icmp_eq (tgt := 2753) hx hb dL_law_1432 (by decide) (fun c1432 => ?_) (fun c1432 => ?_)
  · refine W.widen (k := k0 + 60) (n := n0 + 6000) (by omega) (by omega) ?_
    exact kN _ _ _ _ _ _ _ hI hW hS hd0 (lv_sub hl [0, 1, 2, 3, 4] rfl)
  · exact absurd he c1432
set_option maxHeartbeats 4000000 in
set_option maxRecDepth 100000 in
theorem lo_case_19 {p : Program} {l : Launch} {e : Env} {s : State} {m : MethodId} {below : List Frame} {meth : Method} {c : Code} {D : va_G} {cI cZ cG cL : ClassId} {ad am : Nat → Nat} {q1 q2 q3 oa b L : Nat} {xs : Nat → Int32} (C0 : lo_C p s m meth c l D cI cZ cG cL ad am q1 q2 q3 oa b L xs) {cs : List Choice} (hnb : nanBits ∈ cs) {I : gk_C → gk_C → Prop} {Q : State → Prop} {x4 : Int32} {k0 n0 : Nat} (hcd : lo_cd L x4) (hk : k0 + 60 ≤ room_1.cells) (hn : n0 + 6000 ≤ room_1.slots) (kN : lo_Next cs I p l e room_1 s m below meth c D cI cZ cL ad am oa b Q x4 (k0 + 60) (n0 + 6000)) (hH : ∀ (σ μ : gk_C) (o : Int64), I σ μ → ∀ (a0 : Int32), w_L_setWeighing σ o a0 (fun k σ1 o1 => w_X9_setWeighing μ a0 (fun r μ1 => μ1.2 0 = k ∧ (k = 0 → o1 = r.toInt64) ∧ I σ1 μ1))) {σ μ : gk_C} {o : Int64} {H : Heap} {locs : List Loc} {d0 : Drawn} {ls : Array Slot} (hI : I σ μ) (hW : lo_W D cI cZ cL ad am oa σ μ o H) (hS : va_S (lo_A s.heap.size) s.heap H locs) (hd0 : s.drawn.sameBut d0 cs) (hl : lv_has ls 9 [(0, .ref b), (1, .ref (ad 0)), (2, .ref (am 38)), (3, .ref oa), (4, .int x4)]) : W p l e room_1 (s.setDrawn d0) m #[Value.ref b] below meth c H locs k0 n0 Q (F0 m 1437 ls []) := by
  obtain ⟨hx, hb, hml, hown, hts0, hr, hlocks, hfl, hK0, hY0, hN0, hD, hX0, hbl⟩ := C0
  have hts := dr_words hts0 d0
  have hK := hK0.drawn d0
  have hY := hY0.drawn d0
  have hN : gk_NC (s.setDrawn d0) := hN0
  have hX : va_X b L xs (s.setDrawn d0) s.heap := hX0
  refine lv_aload_n hx hb dL_law_1437 rfl (lv_at hl 1 rfl) ?_
  refine lv_aload_n hx hb dL_law_1438 rfl (lv_at hl 0 rfl) ?_
  refine lv_iload hx hb dL_law_1439 (lv_at hl 4 rfl) ?_
  refine lv_iconst (v := 1) hx hb dL_law_1441 (by decide) ?_
  refine lv_iadd hx hb dL_law_1442 ?_
  refine lo_xald hx hb hX hbl hS (hcd 1 (by decide)) dL_law_1443 ?_
  refine lv_aload_n hx hb dL_law_1444 rfl (lv_at hl 3 rfl) ?_
  have hw := hH σ μ o hI ((xs (x4 + 1).toNatClampNeg))
  refine lo_callL ⟨hx, hb, hml, hown, hts⟩ (c_L_setWeighing l hfl D cI cZ cG cL ad q1 q2 q3 oa hw) (vx_cwSW 3 hts (gk_gS ml_L_201 st_L_setWeighing in_L co_L_setWeighing) rfl rfl rfl (by decide +kernel) ⟨Nat.le_of_ble_eq_true rfl, Nat.le_of_ble_eq_true rfl⟩) hD hW hK hY hN hS rfl hl.1 (rest := []) rfl (lv_room (Nat.le_of_ble_eq_true rfl)) dL_law_1445 ⟨by omega, by omega⟩ (fun r5 σ5 o5 H locs hw hW hS => ?_)
  refine lv_istore (lv' := [(5, .int r5), (0, .ref b), (1, .ref (ad 0)), (2, .ref (am 38)), (3, .ref oa), (4, .int x4)]) hx hb dL_law_1448 hl (by decide) rfl (fun ls hl => ?_)
  refine lv_aload_n hx hb dL_law_1450 rfl (lv_at hl 3 rfl) ?_
  refine lv_aload_n hx hb dL_law_1451 rfl (lv_at hl 1 rfl) ?_
  refine lv_iload hx hb dL_law_1452 (lv_at hl 5 rfl) ?_
  refine lv_iconst (v := 1) hx hb dL_law_1454 (by decide) ?_
  refine lv_iadd hx hb dL_law_1455 ?_
  refine lo_xald hx hb hX hbl hS (hcd 1 (by decide)) dL_law_1456 ?_
  refine lo_callMi ⟨hx, hb, hml, hown, hts⟩ (c_X9_setWeighing l D cI cZ cG cL am hw) (cwV 1 hts (gk_gV ml_L_203 im_X9_setWeighing se_X9_setWeighing in_X9 co_X9_setWeighing) rfl rfl rfl (by decide +kernel) ⟨Nat.le_of_ble_eq_true rfl, Nat.le_of_ble_eq_true rfl⟩) (gk_recv hK.1 (mk_obj hW.2.1) rfl) hD hW hK hS rfl hl.1 (rest := []) rfl (lv_room (Nat.le_of_ble_eq_true rfl)) dL_law_1457 ⟨by omega, by omega⟩ (fun r6 μ6 H locs hw hW hS => ?_)
  obtain ⟨hth, ho, hI⟩ := hw
  refine lv_istore (lv' := [(6, .int r6), (5, .int r5), (0, .ref b), (1, .ref (ad 0)), (2, .ref (am 38)), (3, .ref oa), (4, .int x4)]) hx hb dL_law_1460 hl (by decide) rfl (fun ls hl => ?_)
  refine lv_aload_n hx hb dL_law_1462 rfl (lv_at hl 4 rfl) ?_
  refine lo_callMi ⟨hx, hb, hml, hown, hts⟩ (c_X9_thrown l D cI cZ cG cL am (Q := fun r => r = r5) hth) (cwV 0 hts (gk_gV ml_L_133 im_X9_thrown se_X9_thrown in_X9 co_X9_thrown) rfl rfl rfl (by decide +kernel) ⟨Nat.le_of_ble_eq_true rfl, Nat.le_of_ble_eq_true rfl⟩) (gk_recv hK.1 (mk_obj hW.2.1) rfl) hD hW hK hS rfl hl.1 (rest := []) rfl (lv_room (Nat.le_of_ble_eq_true rfl)) dL_law_1463 ⟨by omega, by omega⟩ (fun r7 μ7 H locs hw7 hW hS => ?_)
  rw [hw7.1] at hW
  have hw7 := hw7.2
  refine lv_iload hx hb dL_law_1466 (lv_at hl 1 rfl) ?_
  refine lv_icmp_eq (tgt := 1473) hx hb dL_law_1468 (by decide) (fun c1468 => ?_) (fun c1468 => ?_)
  · refine lv_iload hx hb dL_law_1473 (lv_at hl 1 rfl) ?_
    refine lv_if_ne (tgt := 1490) hx hb dL_law_1475 (by decide) (fun c1475 => ?_) (fun c1475 => ?_)
    · refine lv_goto (tgt := 2753) hx hb dL_law_1490 (by decide) ?_
      refine W.widen (k := k0 + 60) (n := n0 + 6000) (by omega) (by omega) ?_
      exact kN _ _ _ _ _ _ _ hI hW hS hd0 (lv_sub hl [2, 3, 4, 5, 6] rfl)
    · have ho := ho c1475
      refine lv_aload_n hx hb dL_law_1478 rfl (lv_at hl 5 rfl) ?_
      refine lv_iconst (v := 0) hx hb dL_law_1479 (by decide) ?_
      refine lo_lald hx hb hK hW.2.2 dL_law_1480 ?_
      refine lv_iload hx hb dL_law_1481 (lv_at hl 0 rfl) ?_
      refine lv_i2l (v := r6.toInt64) hx hb dL_law_1483 rfl ?_
      refine lo_lcmp hx hb (ho) dL_law_1484 ?_
      refine lv_if_eq (tgt := 1490) hx hb dL_law_1485 (by decide) (fun c1485 => ?_) (fun c1485 => ?_)
      · refine lv_goto (tgt := 2753) hx hb dL_law_1490 (by decide) ?_
        refine W.widen (k := k0 + 60) (n := n0 + 6000) (by omega) (by omega) ?_
        exact kN _ _ _ _ _ _ _ hI hW hS hd0 (lv_sub hl [2, 3, 4, 5, 6] rfl)
      · exact absurd rfl c1485
  · exact absurd hw7 c1468
set_option maxHeartbeats 4000000 in
set_option maxRecDepth 100000 in
theorem lo_case_20 {p : Program} {l : Launch} {e : Env} {s : State} {m : MethodId} {below : List Frame} {meth : Method} {c : Code} {D : va_G} {cI cZ cG cL : ClassId} {ad am : Nat → Nat} {q1 q2 q3 oa b L : Nat} {xs : Nat → Int32} (C0 : lo_C p s m meth c l D cI cZ cG cL ad am q1 q2 q3 oa b L xs) {cs : List Choice} (hnb : nanBits ∈ cs) {I : gk_C → gk_C → Prop} {Q : State → Prop} {x4 : Int32} {k0 n0 : Nat} (hcd : lo_cd L x4) (hk : k0 + 60 ≤ room_1.cells) (hn : n0 + 6000 ≤ room_1.slots) (kN : lo_Next cs I p l e room_1 s m below meth c D cI cZ cL ad am oa b Q x4 (k0 + 60) (n0 + 6000)) (hH : ∀ (σ μ : gk_C) (o : Int64), I σ μ → ∀ (a0 : Int32) (a1 : Int32) (a2 : Int32) (a3 : Int32), w_L_matches σ o a0 a1 a2 a3 (fun k σ1 o1 => w_X9_matches μ a0 a1 a2 a3 (fun r μ1 => μ1.2 0 = k ∧ (k = 0 → (¬ r = 0 → o1 = 1) ∧ (r = 0 → o1 = 0)) ∧ I σ1 μ1))) {σ μ : gk_C} {o : Int64} {H : Heap} {locs : List Loc} {d0 : Drawn} {ls : Array Slot} (hI : I σ μ) (hW : lo_W D cI cZ cL ad am oa σ μ o H) (hS : va_S (lo_A s.heap.size) s.heap H locs) (hd0 : s.drawn.sameBut d0 cs) (hl : lv_has ls 9 [(0, .ref b), (1, .ref (ad 0)), (2, .ref (am 38)), (3, .ref oa), (4, .int x4)]) : W p l e room_1 (s.setDrawn d0) m #[Value.ref b] below meth c H locs k0 n0 Q (F0 m 1493 ls []) := by
  obtain ⟨hx, hb, hml, hown, hts0, hr, hlocks, hfl, hK0, hY0, hN0, hD, hX0, hbl⟩ := C0
  have hts := dr_words hts0 d0
  have hK := hK0.drawn d0
  have hY := hY0.drawn d0
  have hN : gk_NC (s.setDrawn d0) := hN0
  have hX : va_X b L xs (s.setDrawn d0) s.heap := hX0
  refine lv_aload_n hx hb dL_law_1493 rfl (lv_at hl 1 rfl) ?_
  refine lv_aload_n hx hb dL_law_1494 rfl (lv_at hl 0 rfl) ?_
  refine lv_iload hx hb dL_law_1495 (lv_at hl 4 rfl) ?_
  refine lv_iconst (v := 1) hx hb dL_law_1497 (by decide) ?_
  refine lv_iadd hx hb dL_law_1498 ?_
  refine lo_xald hx hb hX hbl hS (hcd 1 (by decide)) dL_law_1499 ?_
  refine lv_aload_n hx hb dL_law_1500 rfl (lv_at hl 0 rfl) ?_
  refine lv_iload hx hb dL_law_1501 (lv_at hl 4 rfl) ?_
  refine lv_iconst (v := 2) hx hb dL_law_1503 (by decide) ?_
  refine lv_iadd hx hb dL_law_1504 ?_
  refine lo_xald hx hb hX hbl hS (hcd 2 (by decide)) dL_law_1505 ?_
  refine lv_aload_n hx hb dL_law_1506 rfl (lv_at hl 0 rfl) ?_
  refine lv_iload hx hb dL_law_1507 (lv_at hl 4 rfl) ?_
  refine lv_iconst (v := 3) hx hb dL_law_1509 (by decide) ?_
  refine lv_iadd hx hb dL_law_1510 ?_
  refine lo_xald hx hb hX hbl hS (hcd 3 (by decide)) dL_law_1511 ?_
  refine lv_aload_n hx hb dL_law_1512 rfl (lv_at hl 0 rfl) ?_
  refine lv_iload hx hb dL_law_1513 (lv_at hl 4 rfl) ?_
  refine lv_iconst (v := 4) hx hb dL_law_1515 (by decide) ?_
  refine lv_iadd hx hb dL_law_1516 ?_
  refine lo_xald hx hb hX hbl hS (hcd 4 (by decide)) dL_law_1517 ?_
  refine lv_aload_n hx hb dL_law_1518 rfl (lv_at hl 3 rfl) ?_
  have hw := hH σ μ o hI ((xs (x4 + 1).toNatClampNeg)) ((xs (x4 + 2).toNatClampNeg)) ((xs (x4 + 3).toNatClampNeg)) ((xs (x4 + 4).toNatClampNeg))
  refine lo_callL ⟨hx, hb, hml, hown, hts⟩ (c_L_matches l hfl D cI cZ cG cL ad q1 q2 q3 oa hw) (vx_cwSW 6 hts (gk_gS ml_L_204 st_L_matches in_L co_L_matches) rfl rfl rfl (by decide +kernel) ⟨Nat.le_of_ble_eq_true rfl, Nat.le_of_ble_eq_true rfl⟩) hD hW hK hY hN hS rfl hl.1 (rest := []) rfl (lv_room (Nat.le_of_ble_eq_true rfl)) dL_law_1519 ⟨by omega, by omega⟩ (fun r5 σ5 o5 H locs hw hW hS => ?_)
  refine lv_istore (lv' := [(5, .int r5), (0, .ref b), (1, .ref (ad 0)), (2, .ref (am 38)), (3, .ref oa), (4, .int x4)]) hx hb dL_law_1522 hl (by decide) rfl (fun ls hl => ?_)
  refine lv_aload_n hx hb dL_law_1524 rfl (lv_at hl 3 rfl) ?_
  refine lv_aload_n hx hb dL_law_1525 rfl (lv_at hl 1 rfl) ?_
  refine lv_iload hx hb dL_law_1526 (lv_at hl 5 rfl) ?_
  refine lv_iconst (v := 1) hx hb dL_law_1528 (by decide) ?_
  refine lv_iadd hx hb dL_law_1529 ?_
  refine lo_xald hx hb hX hbl hS (hcd 1 (by decide)) dL_law_1530 ?_
  refine lv_aload_n hx hb dL_law_1531 rfl (lv_at hl 1 rfl) ?_
  refine lv_iload hx hb dL_law_1532 (lv_at hl 5 rfl) ?_
  refine lv_iconst (v := 2) hx hb dL_law_1534 (by decide) ?_
  refine lv_iadd hx hb dL_law_1535 ?_
  refine lo_xald hx hb hX hbl hS (hcd 2 (by decide)) dL_law_1536 ?_
  refine lv_aload_n hx hb dL_law_1537 rfl (lv_at hl 1 rfl) ?_
  refine lv_iload hx hb dL_law_1538 (lv_at hl 5 rfl) ?_
  refine lv_iconst (v := 3) hx hb dL_law_1540 (by decide) ?_
  refine lv_iadd hx hb dL_law_1541 ?_
  refine lo_xald hx hb hX hbl hS (hcd 3 (by decide)) dL_law_1542 ?_
  refine lv_aload_n hx hb dL_law_1543 rfl (lv_at hl 1 rfl) ?_
  refine lv_iload hx hb dL_law_1544 (lv_at hl 5 rfl) ?_
  refine lv_iconst (v := 4) hx hb dL_law_1546 (by decide) ?_
  refine lv_iadd hx hb dL_law_1547 ?_
  refine lo_xald hx hb hX hbl hS (hcd 4 (by decide)) dL_law_1548 ?_
  refine lo_callMi ⟨hx, hb, hml, hown, hts⟩ (c_X9_matches l D cI cZ cG cL am hw) (cwV 4 hts (gk_gV ml_L_206 im_X9_matches se_X9_matches in_X9 co_X9_matches) rfl rfl rfl (by decide +kernel) ⟨Nat.le_of_ble_eq_true rfl, Nat.le_of_ble_eq_true rfl⟩) (gk_recv hK.1 (mk_obj hW.2.1) rfl) hD hW hK hS rfl hl.1 (rest := []) rfl (lv_room (Nat.le_of_ble_eq_true rfl)) dL_law_1549 ⟨by omega, by omega⟩ (fun r6 μ6 H locs hw hW hS => ?_)
  obtain ⟨hth, ho, hI⟩ := hw
  refine lv_istore (lv' := [(6, .int r6), (5, .int r5), (0, .ref b), (1, .ref (ad 0)), (2, .ref (am 38)), (3, .ref oa), (4, .int x4)]) hx hb dL_law_1552 hl (by decide) rfl (fun ls hl => ?_)
  refine lv_aload_n hx hb dL_law_1554 rfl (lv_at hl 4 rfl) ?_
  refine lo_callMi ⟨hx, hb, hml, hown, hts⟩ (c_X9_thrown l D cI cZ cG cL am (Q := fun r => r = r5) hth) (cwV 0 hts (gk_gV ml_L_133 im_X9_thrown se_X9_thrown in_X9 co_X9_thrown) rfl rfl rfl (by decide +kernel) ⟨Nat.le_of_ble_eq_true rfl, Nat.le_of_ble_eq_true rfl⟩) (gk_recv hK.1 (mk_obj hW.2.1) rfl) hD hW hK hS rfl hl.1 (rest := []) rfl (lv_room (Nat.le_of_ble_eq_true rfl)) dL_law_1555 ⟨by omega, by omega⟩ (fun r7 μ7 H locs hw7 hW hS => ?_)
  rw [hw7.1] at hW
  have hw7 := hw7.2
  refine lv_iload hx hb dL_law_1558 (lv_at hl 1 rfl) ?_
  refine lv_icmp_eq (tgt := 1565) hx hb dL_law_1560 (by decide) (fun c1560 => ?_) (fun c1560 => ?_)
  · refine lv_iload hx hb dL_law_1565 (lv_at hl 1 rfl) ?_
    refine lv_if_ne (tgt := 1589) hx hb dL_law_1567 (by decide) (fun c1567 => ?_) (fun c1567 => ?_)
    · refine lv_goto (tgt := 2753) hx hb dL_law_1589 (by decide) ?_
      refine W.widen (k := k0 + 60) (n := n0 + 6000) (by omega) (by omega) ?_
      exact kN _ _ _ _ _ _ _ hI hW hS hd0 (lv_sub hl [2, 3, 4, 5, 6] rfl)
    · have ho := ho c1567
      refine lv_aload_n hx hb dL_law_1570 rfl (lv_at hl 5 rfl) ?_
      refine lv_iconst (v := 0) hx hb dL_law_1571 (by decide) ?_
      refine lo_lald hx hb hK hW.2.2 dL_law_1572 ?_
      refine lv_iload hx hb dL_law_1573 (lv_at hl 0 rfl) ?_
      refine lv_if_eq (tgt := 1582) hx hb dL_law_1575 (by decide) (fun c1575 => ?_) (fun c1575 => ?_)
      · refine lv_lconst (v := 0) hx hb dL_law_1582 (by decide) ?_
        refine lo_lcmp hx hb (ho.2 c1575) dL_law_1583 ?_
        refine lv_if_eq (tgt := 1589) hx hb dL_law_1584 (by decide) (fun c1584 => ?_) (fun c1584 => ?_)
        · refine lv_goto (tgt := 2753) hx hb dL_law_1589 (by decide) ?_
          refine W.widen (k := k0 + 60) (n := n0 + 6000) (by omega) (by omega) ?_
          exact kN _ _ _ _ _ _ _ hI hW hS hd0 (lv_sub hl [2, 3, 4, 5, 6] rfl)
        · exact absurd rfl c1584
      · refine lv_lconst (v := 1) hx hb dL_law_1578 (by decide) ?_
        refine lv_goto (tgt := 1583) hx hb dL_law_1579 (by decide) ?_
        refine lo_lcmp hx hb (ho.1 c1575) dL_law_1583 ?_
        refine lv_if_eq (tgt := 1589) hx hb dL_law_1584 (by decide) (fun c1584 => ?_) (fun c1584 => ?_)
        · refine lv_goto (tgt := 2753) hx hb dL_law_1589 (by decide) ?_
          refine W.widen (k := k0 + 60) (n := n0 + 6000) (by omega) (by omega) ?_
          exact kN _ _ _ _ _ _ _ hI hW hS hd0 (lv_sub hl [2, 3, 4, 5, 6] rfl)
        · exact absurd rfl c1584
  · exact absurd hw7 c1560
set_option maxHeartbeats 4000000 in
set_option maxRecDepth 100000 in
theorem lo_case_21 {p : Program} {l : Launch} {e : Env} {s : State} {m : MethodId} {below : List Frame} {meth : Method} {c : Code} {D : va_G} {cI cZ cG cL : ClassId} {ad am : Nat → Nat} {q1 q2 q3 oa b L : Nat} {xs : Nat → Int32} (C0 : lo_C p s m meth c l D cI cZ cG cL ad am q1 q2 q3 oa b L xs) {cs : List Choice} (hnb : nanBits ∈ cs) {I : gk_C → gk_C → Prop} {Q : State → Prop} {x4 : Int32} {k0 n0 : Nat} (hcd : lo_cd L x4) (hk : k0 + 60 ≤ room_1.cells) (hn : n0 + 6000 ≤ room_1.slots) (kN : lo_Next cs I p l e room_1 s m below meth c D cI cZ cL ad am oa b Q x4 (k0 + 60) (n0 + 6000)) (hH : ∀ (σ μ : gk_C) (o : Int64), I σ μ → ∀ (a0 : Int32), w_L_goOn σ o a0 (fun k σ1 o1 => w_X9_goOn μ a0 (fun r μ1 => μ1.2 0 = k ∧ (k = 0 → o1 = r.toInt64) ∧ I σ1 μ1))) {σ μ : gk_C} {o : Int64} {H : Heap} {locs : List Loc} {d0 : Drawn} {ls : Array Slot} (hI : I σ μ) (hW : lo_W D cI cZ cL ad am oa σ μ o H) (hS : va_S (lo_A s.heap.size) s.heap H locs) (hd0 : s.drawn.sameBut d0 cs) (hl : lv_has ls 9 [(0, .ref b), (1, .ref (ad 0)), (2, .ref (am 38)), (3, .ref oa), (4, .int x4)]) : W p l e room_1 (s.setDrawn d0) m #[Value.ref b] below meth c H locs k0 n0 Q (F0 m 1592 ls []) := by
  obtain ⟨hx, hb, hml, hown, hts0, hr, hlocks, hfl, hK0, hY0, hN0, hD, hX0, hbl⟩ := C0
  have hts := dr_words hts0 d0
  have hK := hK0.drawn d0
  have hY := hY0.drawn d0
  have hN : gk_NC (s.setDrawn d0) := hN0
  have hX : va_X b L xs (s.setDrawn d0) s.heap := hX0
  refine lv_aload_n hx hb dL_law_1592 rfl (lv_at hl 1 rfl) ?_
  refine lv_aload_n hx hb dL_law_1593 rfl (lv_at hl 0 rfl) ?_
  refine lv_iload hx hb dL_law_1594 (lv_at hl 4 rfl) ?_
  refine lv_iconst (v := 1) hx hb dL_law_1596 (by decide) ?_
  refine lv_iadd hx hb dL_law_1597 ?_
  refine lo_xald hx hb hX hbl hS (hcd 1 (by decide)) dL_law_1598 ?_
  refine lv_aload_n hx hb dL_law_1599 rfl (lv_at hl 3 rfl) ?_
  have hw := hH σ μ o hI ((xs (x4 + 1).toNatClampNeg))
  refine lo_callL ⟨hx, hb, hml, hown, hts⟩ (c_L_goOn l hfl D cI cZ cG cL ad q1 q2 q3 oa hw) (vx_cwSW 3 hts (gk_gS ml_L_207 st_L_goOn in_L co_L_goOn) rfl rfl rfl (by decide +kernel) ⟨Nat.le_of_ble_eq_true rfl, Nat.le_of_ble_eq_true rfl⟩) hD hW hK hY hN hS rfl hl.1 (rest := []) rfl (lv_room (Nat.le_of_ble_eq_true rfl)) dL_law_1600 ⟨by omega, by omega⟩ (fun r5 σ5 o5 H locs hw hW hS => ?_)
  refine lv_istore (lv' := [(5, .int r5), (0, .ref b), (1, .ref (ad 0)), (2, .ref (am 38)), (3, .ref oa), (4, .int x4)]) hx hb dL_law_1603 hl (by decide) rfl (fun ls hl => ?_)
  refine lv_aload_n hx hb dL_law_1605 rfl (lv_at hl 3 rfl) ?_
  refine lv_aload_n hx hb dL_law_1606 rfl (lv_at hl 1 rfl) ?_
  refine lv_iload hx hb dL_law_1607 (lv_at hl 5 rfl) ?_
  refine lv_iconst (v := 1) hx hb dL_law_1609 (by decide) ?_
  refine lv_iadd hx hb dL_law_1610 ?_
  refine lo_xald hx hb hX hbl hS (hcd 1 (by decide)) dL_law_1611 ?_
  refine lo_callMi ⟨hx, hb, hml, hown, hts⟩ (c_X9_goOn l D cI cZ cG cL am hw) (cwV 1 hts (gk_gV ml_L_209 im_X9_goOn se_X9_goOn in_X9 co_X9_goOn) rfl rfl rfl (by decide +kernel) ⟨Nat.le_of_ble_eq_true rfl, Nat.le_of_ble_eq_true rfl⟩) (gk_recv hK.1 (mk_obj hW.2.1) rfl) hD hW hK hS rfl hl.1 (rest := []) rfl (lv_room (Nat.le_of_ble_eq_true rfl)) dL_law_1612 ⟨by omega, by omega⟩ (fun r6 μ6 H locs hw hW hS => ?_)
  obtain ⟨hth, ho, hI⟩ := hw
  refine lv_istore (lv' := [(6, .int r6), (5, .int r5), (0, .ref b), (1, .ref (ad 0)), (2, .ref (am 38)), (3, .ref oa), (4, .int x4)]) hx hb dL_law_1615 hl (by decide) rfl (fun ls hl => ?_)
  refine lv_aload_n hx hb dL_law_1617 rfl (lv_at hl 4 rfl) ?_
  refine lo_callMi ⟨hx, hb, hml, hown, hts⟩ (c_X9_thrown l D cI cZ cG cL am (Q := fun r => r = r5) hth) (cwV 0 hts (gk_gV ml_L_133 im_X9_thrown se_X9_thrown in_X9 co_X9_thrown) rfl rfl rfl (by decide +kernel) ⟨Nat.le_of_ble_eq_true rfl, Nat.le_of_ble_eq_true rfl⟩) (gk_recv hK.1 (mk_obj hW.2.1) rfl) hD hW hK hS rfl hl.1 (rest := []) rfl (lv_room (Nat.le_of_ble_eq_true rfl)) dL_law_1618 ⟨by omega, by omega⟩ (fun r7 μ7 H locs hw7 hW hS => ?_)
  rw [hw7.1] at hW
  have hw7 := hw7.2
  refine lv_iload hx hb dL_law_1621 (lv_at hl 1 rfl) ?_
  refine lv_icmp_eq (tgt := 1628) hx hb dL_law_1623 (by decide) (fun c1623 => ?_) (fun c1623 => ?_)
  · refine lv_iload hx hb dL_law_1628 (lv_at hl 1 rfl) ?_
    refine lv_if_ne (tgt := 1645) hx hb dL_law_1630 (by decide) (fun c1630 => ?_) (fun c1630 => ?_)
    · refine lv_goto (tgt := 2753) hx hb dL_law_1645 (by decide) ?_
      refine W.widen (k := k0 + 60) (n := n0 + 6000) (by omega) (by omega) ?_
      exact kN _ _ _ _ _ _ _ hI hW hS hd0 (lv_sub hl [2, 3, 4, 5, 6] rfl)
    · have ho := ho c1630
      refine lv_aload_n hx hb dL_law_1633 rfl (lv_at hl 5 rfl) ?_
      refine lv_iconst (v := 0) hx hb dL_law_1634 (by decide) ?_
      refine lo_lald hx hb hK hW.2.2 dL_law_1635 ?_
      refine lv_iload hx hb dL_law_1636 (lv_at hl 0 rfl) ?_
      refine lv_i2l (v := r6.toInt64) hx hb dL_law_1638 rfl ?_
      refine lo_lcmp hx hb (ho) dL_law_1639 ?_
      refine lv_if_eq (tgt := 1645) hx hb dL_law_1640 (by decide) (fun c1640 => ?_) (fun c1640 => ?_)
      · refine lv_goto (tgt := 2753) hx hb dL_law_1645 (by decide) ?_
        refine W.widen (k := k0 + 60) (n := n0 + 6000) (by omega) (by omega) ?_
        exact kN _ _ _ _ _ _ _ hI hW hS hd0 (lv_sub hl [2, 3, 4, 5, 6] rfl)
      · exact absurd rfl c1640
  · exact absurd hw7 c1623
set_option maxHeartbeats 4000000 in
set_option maxRecDepth 100000 in
theorem lo_case_22 {p : Program} {l : Launch} {e : Env} {s : State} {m : MethodId} {below : List Frame} {meth : Method} {c : Code} {D : va_G} {cI cZ cG cL : ClassId} {ad am : Nat → Nat} {q1 q2 q3 oa b L : Nat} {xs : Nat → Int32} (C0 : lo_C p s m meth c l D cI cZ cG cL ad am q1 q2 q3 oa b L xs) {cs : List Choice} (hnb : nanBits ∈ cs) {I : gk_C → gk_C → Prop} {Q : State → Prop} {x4 : Int32} {k0 n0 : Nat} (hcd : lo_cd L x4) (hk : k0 + 60 ≤ room_1.cells) (hn : n0 + 6000 ≤ room_1.slots) (kN : lo_Next cs I p l e room_1 s m below meth c D cI cZ cL ad am oa b Q x4 (k0 + 60) (n0 + 6000)) (hH : ∀ (σ μ : gk_C), I σ μ → w_X8_clock σ (fun r => w_X9_clock μ (fun r1 μ1 => r = r1 ∧ I σ μ1))) {σ μ : gk_C} {o : Int64} {H : Heap} {locs : List Loc} {d0 : Drawn} {ls : Array Slot} (hI : I σ μ) (hW : lo_W D cI cZ cL ad am oa σ μ o H) (hS : va_S (lo_A s.heap.size) s.heap H locs) (hd0 : s.drawn.sameBut d0 cs) (hl : lv_has ls 9 [(0, .ref b), (1, .ref (ad 0)), (2, .ref (am 38)), (3, .ref oa), (4, .int x4)]) : W p l e room_1 (s.setDrawn d0) m #[Value.ref b] below meth c H locs k0 n0 Q (F0 m 1648 ls []) := by
  obtain ⟨hx, hb, hml, hown, hts0, hr, hlocks, hfl, hK0, hY0, hN0, hD, hX0, hbl⟩ := C0
  have hts := dr_words hts0 d0
  have hK := hK0.drawn d0
  have hY := hY0.drawn d0
  have hN : gk_NC (s.setDrawn d0) := hN0
  have hX : va_X b L xs (s.setDrawn d0) s.heap := hX0
  refine lv_aload_n hx hb dL_law_1648 rfl (lv_at hl 1 rfl) ?_
  have hw := hH σ μ hI
  refine lo_callGi ⟨hx, hb, hml, hown, hts⟩ (c_X8_clock l D cI cZ cG cL ad hw) (cwV 0 hts (gk_gV ml_L_210 im_X8_clock se_X8_clock in_X8 co_X8_clock) rfl rfl rfl (by decide +kernel) ⟨Nat.le_of_ble_eq_true rfl, Nat.le_of_ble_eq_true rfl⟩) (gk_recv hK.1 (gk_o0 hW.1) rfl) hD hW hK hS rfl hl.1 (rest := []) rfl (lv_room (Nat.le_of_ble_eq_true rfl)) dL_law_1649 ⟨by omega, by omega⟩ (fun r5 σ5 H locs hw hW hS => ?_)
  rw [hw.1] at hW
  have hw := hw.2
  refine lv_aload_n hx hb dL_law_1652 rfl (lv_at hl 2 rfl) ?_
  refine lo_callMi ⟨hx, hb, hml, hown, hts⟩ (c_X9_clock l D cI cZ cG cL am hw) (cwV 0 hts (gk_gV ml_L_213 im_X9_clock se_X9_clock in_X9 co_X9_clock) rfl rfl rfl (by decide +kernel) ⟨Nat.le_of_ble_eq_true rfl, Nat.le_of_ble_eq_true rfl⟩) (gk_recv hK.1 (mk_obj hW.2.1) rfl) hD hW hK hS rfl hl.1 (rest := [.int r5]) rfl (lv_room (Nat.le_of_ble_eq_true rfl)) dL_law_1653 ⟨by omega, by omega⟩ (fun r6 μ6 H locs hw hW hS => ?_)
  obtain ⟨he, hI⟩ := hw
  refine lv_icmp_eq (tgt := 2753) hx hb dL_law_1656 (by decide) (fun c1656 => ?_) (fun c1656 => ?_)
  · refine W.widen (k := k0 + 60) (n := n0 + 6000) (by omega) (by omega) ?_
    exact kN _ _ _ _ _ _ _ hI hW hS hd0 (lv_sub hl [0, 1, 2, 3, 4] rfl)
  · exact absurd he c1656
set_option maxHeartbeats 4000000 in
set_option maxRecDepth 100000 in
theorem lo_case_23 {p : Program} {l : Launch} {e : Env} {s : State} {m : MethodId} {below : List Frame} {meth : Method} {c : Code} {D : va_G} {cI cZ cG cL : ClassId} {ad am : Nat → Nat} {q1 q2 q3 oa b L : Nat} {xs : Nat → Int32} (C0 : lo_C p s m meth c l D cI cZ cG cL ad am q1 q2 q3 oa b L xs) {cs : List Choice} (hnb : nanBits ∈ cs) {I : gk_C → gk_C → Prop} {Q : State → Prop} {x4 : Int32} {k0 n0 : Nat} (hcd : lo_cd L x4) (hk : k0 + 60 ≤ room_1.cells) (hn : n0 + 6000 ≤ room_1.slots) (kN : lo_Next cs I p l e room_1 s m below meth c D cI cZ cL ad am oa b Q x4 (k0 + 60) (n0 + 6000)) (hH : ∀ (σ μ : gk_C) (o : Int64), I σ μ → ∀ (a0 : Int32) (a1 : Int32) (a2 : Int32) (a3 : Int32) (a4 : Int32) (a5 : Int32), w_L_grant σ o a0 a1 a2 a3 a4 a5 (fun k σ1 o1 => w_X9_grant μ a0 a1 a2 a3 a4 a5 (fun r μ1 => μ1.2 0 = k ∧ (k = 0 → o1 = r.toInt64) ∧ I σ1 μ1))) {σ μ : gk_C} {o : Int64} {H : Heap} {locs : List Loc} {d0 : Drawn} {ls : Array Slot} (hI : I σ μ) (hW : lo_W D cI cZ cL ad am oa σ μ o H) (hS : va_S (lo_A s.heap.size) s.heap H locs) (hd0 : s.drawn.sameBut d0 cs) (hl : lv_has ls 9 [(0, .ref b), (1, .ref (ad 0)), (2, .ref (am 38)), (3, .ref oa), (4, .int x4)]) : W p l e room_1 (s.setDrawn d0) m #[Value.ref b] below meth c H locs k0 n0 Q (F0 m 1661 ls []) := by
  obtain ⟨hx, hb, hml, hown, hts0, hr, hlocks, hfl, hK0, hY0, hN0, hD, hX0, hbl⟩ := C0
  have hts := dr_words hts0 d0
  have hK := hK0.drawn d0
  have hY := hY0.drawn d0
  have hN : gk_NC (s.setDrawn d0) := hN0
  have hX : va_X b L xs (s.setDrawn d0) s.heap := hX0
  refine lv_aload_n hx hb dL_law_1661 rfl (lv_at hl 1 rfl) ?_
  refine lv_aload_n hx hb dL_law_1662 rfl (lv_at hl 0 rfl) ?_
  refine lv_iload hx hb dL_law_1663 (lv_at hl 4 rfl) ?_
  refine lv_iconst (v := 1) hx hb dL_law_1665 (by decide) ?_
  refine lv_iadd hx hb dL_law_1666 ?_
  refine lo_xald hx hb hX hbl hS (hcd 1 (by decide)) dL_law_1667 ?_
  refine lv_aload_n hx hb dL_law_1668 rfl (lv_at hl 0 rfl) ?_
  refine lv_iload hx hb dL_law_1669 (lv_at hl 4 rfl) ?_
  refine lv_iconst (v := 2) hx hb dL_law_1671 (by decide) ?_
  refine lv_iadd hx hb dL_law_1672 ?_
  refine lo_xald hx hb hX hbl hS (hcd 2 (by decide)) dL_law_1673 ?_
  refine lv_aload_n hx hb dL_law_1674 rfl (lv_at hl 0 rfl) ?_
  refine lv_iload hx hb dL_law_1675 (lv_at hl 4 rfl) ?_
  refine lv_iconst (v := 3) hx hb dL_law_1677 (by decide) ?_
  refine lv_iadd hx hb dL_law_1678 ?_
  refine lo_xald hx hb hX hbl hS (hcd 3 (by decide)) dL_law_1679 ?_
  refine lv_aload_n hx hb dL_law_1680 rfl (lv_at hl 0 rfl) ?_
  refine lv_iload hx hb dL_law_1681 (lv_at hl 4 rfl) ?_
  refine lv_iconst (v := 4) hx hb dL_law_1683 (by decide) ?_
  refine lv_iadd hx hb dL_law_1684 ?_
  refine lo_xald hx hb hX hbl hS (hcd 4 (by decide)) dL_law_1685 ?_
  refine lv_aload_n hx hb dL_law_1686 rfl (lv_at hl 0 rfl) ?_
  refine lv_iload hx hb dL_law_1687 (lv_at hl 4 rfl) ?_
  refine lv_iconst (v := 5) hx hb dL_law_1689 (by decide) ?_
  refine lv_iadd hx hb dL_law_1690 ?_
  refine lo_xald hx hb hX hbl hS (hcd 5 (by decide)) dL_law_1691 ?_
  refine lv_aload_n hx hb dL_law_1692 rfl (lv_at hl 0 rfl) ?_
  refine lv_iload hx hb dL_law_1693 (lv_at hl 4 rfl) ?_
  refine lv_bipush (v := 6) hx hb dL_law_1695 (by decide) ?_
  refine lv_iadd hx hb dL_law_1697 ?_
  refine lo_xald hx hb hX hbl hS (hcd 6 (by decide)) dL_law_1698 ?_
  refine lv_aload_n hx hb dL_law_1699 rfl (lv_at hl 3 rfl) ?_
  have hw := hH σ μ o hI ((xs (x4 + 1).toNatClampNeg)) ((xs (x4 + 2).toNatClampNeg)) ((xs (x4 + 3).toNatClampNeg)) ((xs (x4 + 4).toNatClampNeg)) ((xs (x4 + 5).toNatClampNeg)) ((xs (x4 + 6).toNatClampNeg))
  refine lo_callL ⟨hx, hb, hml, hown, hts⟩ (c_L_grant l hfl D cI cZ cG cL ad q1 q2 q3 oa hw) (vx_cwSW 8 hts (gk_gS ml_L_214 st_L_grant in_L co_L_grant) rfl rfl rfl (by decide +kernel) ⟨Nat.le_of_ble_eq_true rfl, Nat.le_of_ble_eq_true rfl⟩) hD hW hK hY hN hS rfl hl.1 (rest := []) rfl (lv_room (Nat.le_of_ble_eq_true rfl)) dL_law_1700 ⟨by omega, by omega⟩ (fun r5 σ5 o5 H locs hw hW hS => ?_)
  refine lv_istore (lv' := [(5, .int r5), (0, .ref b), (1, .ref (ad 0)), (2, .ref (am 38)), (3, .ref oa), (4, .int x4)]) hx hb dL_law_1703 hl (by decide) rfl (fun ls hl => ?_)
  refine lv_aload_n hx hb dL_law_1705 rfl (lv_at hl 3 rfl) ?_
  refine lv_aload_n hx hb dL_law_1706 rfl (lv_at hl 1 rfl) ?_
  refine lv_iload hx hb dL_law_1707 (lv_at hl 5 rfl) ?_
  refine lv_iconst (v := 1) hx hb dL_law_1709 (by decide) ?_
  refine lv_iadd hx hb dL_law_1710 ?_
  refine lo_xald hx hb hX hbl hS (hcd 1 (by decide)) dL_law_1711 ?_
  refine lv_aload_n hx hb dL_law_1712 rfl (lv_at hl 1 rfl) ?_
  refine lv_iload hx hb dL_law_1713 (lv_at hl 5 rfl) ?_
  refine lv_iconst (v := 2) hx hb dL_law_1715 (by decide) ?_
  refine lv_iadd hx hb dL_law_1716 ?_
  refine lo_xald hx hb hX hbl hS (hcd 2 (by decide)) dL_law_1717 ?_
  refine lv_aload_n hx hb dL_law_1718 rfl (lv_at hl 1 rfl) ?_
  refine lv_iload hx hb dL_law_1719 (lv_at hl 5 rfl) ?_
  refine lv_iconst (v := 3) hx hb dL_law_1721 (by decide) ?_
  refine lv_iadd hx hb dL_law_1722 ?_
  refine lo_xald hx hb hX hbl hS (hcd 3 (by decide)) dL_law_1723 ?_
  refine lv_aload_n hx hb dL_law_1724 rfl (lv_at hl 1 rfl) ?_
  refine lv_iload hx hb dL_law_1725 (lv_at hl 5 rfl) ?_
  refine lv_iconst (v := 4) hx hb dL_law_1727 (by decide) ?_
  refine lv_iadd hx hb dL_law_1728 ?_
  refine lo_xald hx hb hX hbl hS (hcd 4 (by decide)) dL_law_1729 ?_
  refine lv_aload_n hx hb dL_law_1730 rfl (lv_at hl 1 rfl) ?_
  refine lv_iload hx hb dL_law_1731 (lv_at hl 5 rfl) ?_
  refine lv_iconst (v := 5) hx hb dL_law_1733 (by decide) ?_
  refine lv_iadd hx hb dL_law_1734 ?_
  refine lo_xald hx hb hX hbl hS (hcd 5 (by decide)) dL_law_1735 ?_
  refine lv_aload_n hx hb dL_law_1736 rfl (lv_at hl 1 rfl) ?_
  refine lv_iload hx hb dL_law_1737 (lv_at hl 5 rfl) ?_
  refine lv_bipush (v := 6) hx hb dL_law_1739 (by decide) ?_
  refine lv_iadd hx hb dL_law_1741 ?_
  refine lo_xald hx hb hX hbl hS (hcd 6 (by decide)) dL_law_1742 ?_
  refine lo_callMi ⟨hx, hb, hml, hown, hts⟩ (c_X9_grant l D cI cZ cG cL am hw) (cwV 6 hts (gk_gV ml_L_217 im_X9_grant se_X9_grant in_X9 co_X9_grant) rfl rfl rfl (by decide +kernel) ⟨Nat.le_of_ble_eq_true rfl, Nat.le_of_ble_eq_true rfl⟩) (gk_recv hK.1 (mk_obj hW.2.1) rfl) hD hW hK hS rfl hl.1 (rest := []) rfl (lv_room (Nat.le_of_ble_eq_true rfl)) dL_law_1743 ⟨by omega, by omega⟩ (fun r6 μ6 H locs hw hW hS => ?_)
  obtain ⟨hth, ho, hI⟩ := hw
  refine lv_istore (lv' := [(6, .int r6), (5, .int r5), (0, .ref b), (1, .ref (ad 0)), (2, .ref (am 38)), (3, .ref oa), (4, .int x4)]) hx hb dL_law_1746 hl (by decide) rfl (fun ls hl => ?_)
  refine lv_aload_n hx hb dL_law_1748 rfl (lv_at hl 4 rfl) ?_
  refine lo_callMi ⟨hx, hb, hml, hown, hts⟩ (c_X9_thrown l D cI cZ cG cL am (Q := fun r => r = r5) hth) (cwV 0 hts (gk_gV ml_L_133 im_X9_thrown se_X9_thrown in_X9 co_X9_thrown) rfl rfl rfl (by decide +kernel) ⟨Nat.le_of_ble_eq_true rfl, Nat.le_of_ble_eq_true rfl⟩) (gk_recv hK.1 (mk_obj hW.2.1) rfl) hD hW hK hS rfl hl.1 (rest := []) rfl (lv_room (Nat.le_of_ble_eq_true rfl)) dL_law_1749 ⟨by omega, by omega⟩ (fun r7 μ7 H locs hw7 hW hS => ?_)
  rw [hw7.1] at hW
  have hw7 := hw7.2
  refine lv_iload hx hb dL_law_1752 (lv_at hl 1 rfl) ?_
  refine lv_icmp_eq (tgt := 1759) hx hb dL_law_1754 (by decide) (fun c1754 => ?_) (fun c1754 => ?_)
  · refine lv_iload hx hb dL_law_1759 (lv_at hl 1 rfl) ?_
    refine lv_if_ne (tgt := 1776) hx hb dL_law_1761 (by decide) (fun c1761 => ?_) (fun c1761 => ?_)
    · refine lv_goto (tgt := 2753) hx hb dL_law_1776 (by decide) ?_
      refine W.widen (k := k0 + 60) (n := n0 + 6000) (by omega) (by omega) ?_
      exact kN _ _ _ _ _ _ _ hI hW hS hd0 (lv_sub hl [2, 3, 4, 5, 6] rfl)
    · have ho := ho c1761
      refine lv_aload_n hx hb dL_law_1764 rfl (lv_at hl 5 rfl) ?_
      refine lv_iconst (v := 0) hx hb dL_law_1765 (by decide) ?_
      refine lo_lald hx hb hK hW.2.2 dL_law_1766 ?_
      refine lv_iload hx hb dL_law_1767 (lv_at hl 0 rfl) ?_
      refine lv_i2l (v := r6.toInt64) hx hb dL_law_1769 rfl ?_
      refine lo_lcmp hx hb (ho) dL_law_1770 ?_
      refine lv_if_eq (tgt := 1776) hx hb dL_law_1771 (by decide) (fun c1771 => ?_) (fun c1771 => ?_)
      · refine lv_goto (tgt := 2753) hx hb dL_law_1776 (by decide) ?_
        refine W.widen (k := k0 + 60) (n := n0 + 6000) (by omega) (by omega) ?_
        exact kN _ _ _ _ _ _ _ hI hW hS hd0 (lv_sub hl [2, 3, 4, 5, 6] rfl)
      · exact absurd rfl c1771
  · exact absurd hw7 c1754
set_option maxHeartbeats 4000000 in
set_option maxRecDepth 100000 in
theorem lo_case_24 {p : Program} {l : Launch} {e : Env} {s : State} {m : MethodId} {below : List Frame} {meth : Method} {c : Code} {D : va_G} {cI cZ cG cL : ClassId} {ad am : Nat → Nat} {q1 q2 q3 oa b L : Nat} {xs : Nat → Int32} (C0 : lo_C p s m meth c l D cI cZ cG cL ad am q1 q2 q3 oa b L xs) {cs : List Choice} (hnb : nanBits ∈ cs) {I : gk_C → gk_C → Prop} {Q : State → Prop} {x4 : Int32} {k0 n0 : Nat} (hcd : lo_cd L x4) (hk : k0 + 60 ≤ room_1.cells) (hn : n0 + 6000 ≤ room_1.slots) (kN : lo_Next cs I p l e room_1 s m below meth c D cI cZ cL ad am oa b Q x4 (k0 + 60) (n0 + 6000)) (hH : ∀ (σ μ : gk_C) (o : Int64), I σ μ → ∀ (a0 : Int32), w_L_revoke σ o a0 (fun k σ1 o1 => w_X9_revoke μ a0 (fun r μ1 => μ1.2 0 = k ∧ (k = 0 → (¬ r = 0 → o1 = 1) ∧ (r = 0 → o1 = 0)) ∧ I σ1 μ1))) {σ μ : gk_C} {o : Int64} {H : Heap} {locs : List Loc} {d0 : Drawn} {ls : Array Slot} (hI : I σ μ) (hW : lo_W D cI cZ cL ad am oa σ μ o H) (hS : va_S (lo_A s.heap.size) s.heap H locs) (hd0 : s.drawn.sameBut d0 cs) (hl : lv_has ls 9 [(0, .ref b), (1, .ref (ad 0)), (2, .ref (am 38)), (3, .ref oa), (4, .int x4)]) : W p l e room_1 (s.setDrawn d0) m #[Value.ref b] below meth c H locs k0 n0 Q (F0 m 1779 ls []) := by
  obtain ⟨hx, hb, hml, hown, hts0, hr, hlocks, hfl, hK0, hY0, hN0, hD, hX0, hbl⟩ := C0
  have hts := dr_words hts0 d0
  have hK := hK0.drawn d0
  have hY := hY0.drawn d0
  have hN : gk_NC (s.setDrawn d0) := hN0
  have hX : va_X b L xs (s.setDrawn d0) s.heap := hX0
  refine lv_aload_n hx hb dL_law_1779 rfl (lv_at hl 1 rfl) ?_
  refine lv_aload_n hx hb dL_law_1780 rfl (lv_at hl 0 rfl) ?_
  refine lv_iload hx hb dL_law_1781 (lv_at hl 4 rfl) ?_
  refine lv_iconst (v := 1) hx hb dL_law_1783 (by decide) ?_
  refine lv_iadd hx hb dL_law_1784 ?_
  refine lo_xald hx hb hX hbl hS (hcd 1 (by decide)) dL_law_1785 ?_
  refine lv_aload_n hx hb dL_law_1786 rfl (lv_at hl 3 rfl) ?_
  have hw := hH σ μ o hI ((xs (x4 + 1).toNatClampNeg))
  refine lo_callL ⟨hx, hb, hml, hown, hts⟩ (c_L_revoke l hfl D cI cZ cG cL ad q1 q2 q3 oa hw) (vx_cwSW 3 hts (gk_gS ml_L_218 st_L_revoke in_L co_L_revoke) rfl rfl rfl (by decide +kernel) ⟨Nat.le_of_ble_eq_true rfl, Nat.le_of_ble_eq_true rfl⟩) hD hW hK hY hN hS rfl hl.1 (rest := []) rfl (lv_room (Nat.le_of_ble_eq_true rfl)) dL_law_1787 ⟨by omega, by omega⟩ (fun r5 σ5 o5 H locs hw hW hS => ?_)
  refine lv_istore (lv' := [(5, .int r5), (0, .ref b), (1, .ref (ad 0)), (2, .ref (am 38)), (3, .ref oa), (4, .int x4)]) hx hb dL_law_1790 hl (by decide) rfl (fun ls hl => ?_)
  refine lv_aload_n hx hb dL_law_1792 rfl (lv_at hl 3 rfl) ?_
  refine lv_aload_n hx hb dL_law_1793 rfl (lv_at hl 1 rfl) ?_
  refine lv_iload hx hb dL_law_1794 (lv_at hl 5 rfl) ?_
  refine lv_iconst (v := 1) hx hb dL_law_1796 (by decide) ?_
  refine lv_iadd hx hb dL_law_1797 ?_
  refine lo_xald hx hb hX hbl hS (hcd 1 (by decide)) dL_law_1798 ?_
  refine lo_callMi ⟨hx, hb, hml, hown, hts⟩ (c_X9_revoke l D cI cZ cG cL am hw) (cwV 1 hts (gk_gV ml_L_220 im_X9_revoke se_X9_revoke in_X9 co_X9_revoke) rfl rfl rfl (by decide +kernel) ⟨Nat.le_of_ble_eq_true rfl, Nat.le_of_ble_eq_true rfl⟩) (gk_recv hK.1 (mk_obj hW.2.1) rfl) hD hW hK hS rfl hl.1 (rest := []) rfl (lv_room (Nat.le_of_ble_eq_true rfl)) dL_law_1799 ⟨by omega, by omega⟩ (fun r6 μ6 H locs hw hW hS => ?_)
  obtain ⟨hth, ho, hI⟩ := hw
  refine lv_istore (lv' := [(6, .int r6), (5, .int r5), (0, .ref b), (1, .ref (ad 0)), (2, .ref (am 38)), (3, .ref oa), (4, .int x4)]) hx hb dL_law_1802 hl (by decide) rfl (fun ls hl => ?_)
  refine lv_aload_n hx hb dL_law_1804 rfl (lv_at hl 4 rfl) ?_
  refine lo_callMi ⟨hx, hb, hml, hown, hts⟩ (c_X9_thrown l D cI cZ cG cL am (Q := fun r => r = r5) hth) (cwV 0 hts (gk_gV ml_L_133 im_X9_thrown se_X9_thrown in_X9 co_X9_thrown) rfl rfl rfl (by decide +kernel) ⟨Nat.le_of_ble_eq_true rfl, Nat.le_of_ble_eq_true rfl⟩) (gk_recv hK.1 (mk_obj hW.2.1) rfl) hD hW hK hS rfl hl.1 (rest := []) rfl (lv_room (Nat.le_of_ble_eq_true rfl)) dL_law_1805 ⟨by omega, by omega⟩ (fun r7 μ7 H locs hw7 hW hS => ?_)
  rw [hw7.1] at hW
  have hw7 := hw7.2
  refine lv_iload hx hb dL_law_1808 (lv_at hl 1 rfl) ?_
  refine lv_icmp_eq (tgt := 1815) hx hb dL_law_1810 (by decide) (fun c1810 => ?_) (fun c1810 => ?_)
  · refine lv_iload hx hb dL_law_1815 (lv_at hl 1 rfl) ?_
    refine lv_if_ne (tgt := 1839) hx hb dL_law_1817 (by decide) (fun c1817 => ?_) (fun c1817 => ?_)
    · refine lv_goto (tgt := 2753) hx hb dL_law_1839 (by decide) ?_
      refine W.widen (k := k0 + 60) (n := n0 + 6000) (by omega) (by omega) ?_
      exact kN _ _ _ _ _ _ _ hI hW hS hd0 (lv_sub hl [2, 3, 4, 5, 6] rfl)
    · have ho := ho c1817
      refine lv_aload_n hx hb dL_law_1820 rfl (lv_at hl 5 rfl) ?_
      refine lv_iconst (v := 0) hx hb dL_law_1821 (by decide) ?_
      refine lo_lald hx hb hK hW.2.2 dL_law_1822 ?_
      refine lv_iload hx hb dL_law_1823 (lv_at hl 0 rfl) ?_
      refine lv_if_eq (tgt := 1832) hx hb dL_law_1825 (by decide) (fun c1825 => ?_) (fun c1825 => ?_)
      · refine lv_lconst (v := 0) hx hb dL_law_1832 (by decide) ?_
        refine lo_lcmp hx hb (ho.2 c1825) dL_law_1833 ?_
        refine lv_if_eq (tgt := 1839) hx hb dL_law_1834 (by decide) (fun c1834 => ?_) (fun c1834 => ?_)
        · refine lv_goto (tgt := 2753) hx hb dL_law_1839 (by decide) ?_
          refine W.widen (k := k0 + 60) (n := n0 + 6000) (by omega) (by omega) ?_
          exact kN _ _ _ _ _ _ _ hI hW hS hd0 (lv_sub hl [2, 3, 4, 5, 6] rfl)
        · exact absurd rfl c1834
      · refine lv_lconst (v := 1) hx hb dL_law_1828 (by decide) ?_
        refine lv_goto (tgt := 1833) hx hb dL_law_1829 (by decide) ?_
        refine lo_lcmp hx hb (ho.1 c1825) dL_law_1833 ?_
        refine lv_if_eq (tgt := 1839) hx hb dL_law_1834 (by decide) (fun c1834 => ?_) (fun c1834 => ?_)
        · refine lv_goto (tgt := 2753) hx hb dL_law_1839 (by decide) ?_
          refine W.widen (k := k0 + 60) (n := n0 + 6000) (by omega) (by omega) ?_
          exact kN _ _ _ _ _ _ _ hI hW hS hd0 (lv_sub hl [2, 3, 4, 5, 6] rfl)
        · exact absurd rfl c1834
  · exact absurd hw7 c1810
set_option maxHeartbeats 4000000 in
set_option maxRecDepth 100000 in
theorem lo_case_25 {p : Program} {l : Launch} {e : Env} {s : State} {m : MethodId} {below : List Frame} {meth : Method} {c : Code} {D : va_G} {cI cZ cG cL : ClassId} {ad am : Nat → Nat} {q1 q2 q3 oa b L : Nat} {xs : Nat → Int32} (C0 : lo_C p s m meth c l D cI cZ cG cL ad am q1 q2 q3 oa b L xs) {cs : List Choice} (hnb : nanBits ∈ cs) {I : gk_C → gk_C → Prop} {Q : State → Prop} {x4 : Int32} {k0 n0 : Nat} (hcd : lo_cd L x4) (hk : k0 + 60 ≤ room_1.cells) (hn : n0 + 6000 ≤ room_1.slots) (kN : lo_Next cs I p l e room_1 s m below meth c D cI cZ cL ad am oa b Q x4 (k0 + 60) (n0 + 6000)) (hH : ∀ (σ μ : gk_C), I σ μ → w_X8_grants σ (fun r => w_X9_grants μ (fun r1 μ1 => r = r1 ∧ I σ μ1))) {σ μ : gk_C} {o : Int64} {H : Heap} {locs : List Loc} {d0 : Drawn} {ls : Array Slot} (hI : I σ μ) (hW : lo_W D cI cZ cL ad am oa σ μ o H) (hS : va_S (lo_A s.heap.size) s.heap H locs) (hd0 : s.drawn.sameBut d0 cs) (hl : lv_has ls 9 [(0, .ref b), (1, .ref (ad 0)), (2, .ref (am 38)), (3, .ref oa), (4, .int x4)]) : W p l e room_1 (s.setDrawn d0) m #[Value.ref b] below meth c H locs k0 n0 Q (F0 m 1842 ls []) := by
  obtain ⟨hx, hb, hml, hown, hts0, hr, hlocks, hfl, hK0, hY0, hN0, hD, hX0, hbl⟩ := C0
  have hts := dr_words hts0 d0
  have hK := hK0.drawn d0
  have hY := hY0.drawn d0
  have hN : gk_NC (s.setDrawn d0) := hN0
  have hX : va_X b L xs (s.setDrawn d0) s.heap := hX0
  refine lv_aload_n hx hb dL_law_1842 rfl (lv_at hl 1 rfl) ?_
  have hw := hH σ μ hI
  refine lo_callGi ⟨hx, hb, hml, hown, hts⟩ (c_X8_grants l D cI cZ cG cL ad hw) (cwV 0 hts (gk_gV ml_L_221 im_X8_grants se_X8_grants in_X8 co_X8_grants) rfl rfl rfl (by decide +kernel) ⟨Nat.le_of_ble_eq_true rfl, Nat.le_of_ble_eq_true rfl⟩) (gk_recv hK.1 (gk_o0 hW.1) rfl) hD hW hK hS rfl hl.1 (rest := []) rfl (lv_room (Nat.le_of_ble_eq_true rfl)) dL_law_1843 ⟨by omega, by omega⟩ (fun r5 σ5 H locs hw hW hS => ?_)
  rw [hw.1] at hW
  have hw := hw.2
  refine lv_aload_n hx hb dL_law_1846 rfl (lv_at hl 2 rfl) ?_
  refine lo_callMi ⟨hx, hb, hml, hown, hts⟩ (c_X9_grants l D cI cZ cG cL am hw) (cwV 0 hts (gk_gV ml_L_224 im_X9_grants se_X9_grants in_X9 co_X9_grants) rfl rfl rfl (by decide +kernel) ⟨Nat.le_of_ble_eq_true rfl, Nat.le_of_ble_eq_true rfl⟩) (gk_recv hK.1 (mk_obj hW.2.1) rfl) hD hW hK hS rfl hl.1 (rest := [.int r5]) rfl (lv_room (Nat.le_of_ble_eq_true rfl)) dL_law_1847 ⟨by omega, by omega⟩ (fun r6 μ6 H locs hw hW hS => ?_)
  obtain ⟨he, hI⟩ := hw
  refine lv_icmp_eq (tgt := 2753) hx hb dL_law_1850 (by decide) (fun c1850 => ?_) (fun c1850 => ?_)
  · refine W.widen (k := k0 + 60) (n := n0 + 6000) (by omega) (by omega) ?_
    exact kN _ _ _ _ _ _ _ hI hW hS hd0 (lv_sub hl [0, 1, 2, 3, 4] rfl)
  · exact absurd he c1850
set_option maxHeartbeats 4000000 in
set_option maxRecDepth 100000 in
theorem lo_case_26 {p : Program} {l : Launch} {e : Env} {s : State} {m : MethodId} {below : List Frame} {meth : Method} {c : Code} {D : va_G} {cI cZ cG cL : ClassId} {ad am : Nat → Nat} {q1 q2 q3 oa b L : Nat} {xs : Nat → Int32} (C0 : lo_C p s m meth c l D cI cZ cG cL ad am q1 q2 q3 oa b L xs) {cs : List Choice} (hnb : nanBits ∈ cs) {I : gk_C → gk_C → Prop} {Q : State → Prop} {x4 : Int32} {k0 n0 : Nat} (hcd : lo_cd L x4) (hk : k0 + 60 ≤ room_1.cells) (hn : n0 + 6000 ≤ room_1.slots) (kN : lo_Next cs I p l e room_1 s m below meth c D cI cZ cL ad am oa b Q x4 (k0 + 60) (n0 + 6000)) (hH : ∀ (σ μ : gk_C) (o : Int64), I σ μ → ∀ (a0 : Int32), w_L_isGood σ o a0 (fun k σ1 o1 => w_X9_isGood μ a0 (fun r μ1 => μ1.2 0 = k ∧ (k = 0 → (¬ r = 0 → o1 = 1) ∧ (r = 0 → o1 = 0)) ∧ I σ1 μ1))) {σ μ : gk_C} {o : Int64} {H : Heap} {locs : List Loc} {d0 : Drawn} {ls : Array Slot} (hI : I σ μ) (hW : lo_W D cI cZ cL ad am oa σ μ o H) (hS : va_S (lo_A s.heap.size) s.heap H locs) (hd0 : s.drawn.sameBut d0 cs) (hl : lv_has ls 9 [(0, .ref b), (1, .ref (ad 0)), (2, .ref (am 38)), (3, .ref oa), (4, .int x4)]) : W p l e room_1 (s.setDrawn d0) m #[Value.ref b] below meth c H locs k0 n0 Q (F0 m 1855 ls []) := by
  obtain ⟨hx, hb, hml, hown, hts0, hr, hlocks, hfl, hK0, hY0, hN0, hD, hX0, hbl⟩ := C0
  have hts := dr_words hts0 d0
  have hK := hK0.drawn d0
  have hY := hY0.drawn d0
  have hN : gk_NC (s.setDrawn d0) := hN0
  have hX : va_X b L xs (s.setDrawn d0) s.heap := hX0
  refine lv_aload_n hx hb dL_law_1855 rfl (lv_at hl 1 rfl) ?_
  refine lv_aload_n hx hb dL_law_1856 rfl (lv_at hl 0 rfl) ?_
  refine lv_iload hx hb dL_law_1857 (lv_at hl 4 rfl) ?_
  refine lv_iconst (v := 1) hx hb dL_law_1859 (by decide) ?_
  refine lv_iadd hx hb dL_law_1860 ?_
  refine lo_xald hx hb hX hbl hS (hcd 1 (by decide)) dL_law_1861 ?_
  refine lv_aload_n hx hb dL_law_1862 rfl (lv_at hl 3 rfl) ?_
  have hw := hH σ μ o hI ((xs (x4 + 1).toNatClampNeg))
  refine lo_callL ⟨hx, hb, hml, hown, hts⟩ (c_L_isGood l hfl D cI cZ cG cL ad q1 q2 q3 oa hw) (vx_cwSW 3 hts (gk_gS ml_L_225 st_L_isGood in_L co_L_isGood) rfl rfl rfl (by decide +kernel) ⟨Nat.le_of_ble_eq_true rfl, Nat.le_of_ble_eq_true rfl⟩) hD hW hK hY hN hS rfl hl.1 (rest := []) rfl (lv_room (Nat.le_of_ble_eq_true rfl)) dL_law_1863 ⟨by omega, by omega⟩ (fun r5 σ5 o5 H locs hw hW hS => ?_)
  refine lv_istore (lv' := [(5, .int r5), (0, .ref b), (1, .ref (ad 0)), (2, .ref (am 38)), (3, .ref oa), (4, .int x4)]) hx hb dL_law_1866 hl (by decide) rfl (fun ls hl => ?_)
  refine lv_aload_n hx hb dL_law_1868 rfl (lv_at hl 3 rfl) ?_
  refine lv_aload_n hx hb dL_law_1869 rfl (lv_at hl 1 rfl) ?_
  refine lv_iload hx hb dL_law_1870 (lv_at hl 5 rfl) ?_
  refine lv_iconst (v := 1) hx hb dL_law_1872 (by decide) ?_
  refine lv_iadd hx hb dL_law_1873 ?_
  refine lo_xald hx hb hX hbl hS (hcd 1 (by decide)) dL_law_1874 ?_
  refine lo_callMi ⟨hx, hb, hml, hown, hts⟩ (c_X9_isGood l D cI cZ cG cL am hw) (cwV 1 hts (gk_gV ml_L_227 im_X9_isGood se_X9_isGood in_X9 co_X9_isGood) rfl rfl rfl (by decide +kernel) ⟨Nat.le_of_ble_eq_true rfl, Nat.le_of_ble_eq_true rfl⟩) (gk_recv hK.1 (mk_obj hW.2.1) rfl) hD hW hK hS rfl hl.1 (rest := []) rfl (lv_room (Nat.le_of_ble_eq_true rfl)) dL_law_1875 ⟨by omega, by omega⟩ (fun r6 μ6 H locs hw hW hS => ?_)
  obtain ⟨hth, ho, hI⟩ := hw
  refine lv_istore (lv' := [(6, .int r6), (5, .int r5), (0, .ref b), (1, .ref (ad 0)), (2, .ref (am 38)), (3, .ref oa), (4, .int x4)]) hx hb dL_law_1878 hl (by decide) rfl (fun ls hl => ?_)
  refine lv_aload_n hx hb dL_law_1880 rfl (lv_at hl 4 rfl) ?_
  refine lo_callMi ⟨hx, hb, hml, hown, hts⟩ (c_X9_thrown l D cI cZ cG cL am (Q := fun r => r = r5) hth) (cwV 0 hts (gk_gV ml_L_133 im_X9_thrown se_X9_thrown in_X9 co_X9_thrown) rfl rfl rfl (by decide +kernel) ⟨Nat.le_of_ble_eq_true rfl, Nat.le_of_ble_eq_true rfl⟩) (gk_recv hK.1 (mk_obj hW.2.1) rfl) hD hW hK hS rfl hl.1 (rest := []) rfl (lv_room (Nat.le_of_ble_eq_true rfl)) dL_law_1881 ⟨by omega, by omega⟩ (fun r7 μ7 H locs hw7 hW hS => ?_)
  rw [hw7.1] at hW
  have hw7 := hw7.2
  refine lv_iload hx hb dL_law_1884 (lv_at hl 1 rfl) ?_
  refine lv_icmp_eq (tgt := 1891) hx hb dL_law_1886 (by decide) (fun c1886 => ?_) (fun c1886 => ?_)
  · refine lv_iload hx hb dL_law_1891 (lv_at hl 1 rfl) ?_
    refine lv_if_ne (tgt := 1915) hx hb dL_law_1893 (by decide) (fun c1893 => ?_) (fun c1893 => ?_)
    · refine lv_goto (tgt := 2753) hx hb dL_law_1915 (by decide) ?_
      refine W.widen (k := k0 + 60) (n := n0 + 6000) (by omega) (by omega) ?_
      exact kN _ _ _ _ _ _ _ hI hW hS hd0 (lv_sub hl [2, 3, 4, 5, 6] rfl)
    · have ho := ho c1893
      refine lv_aload_n hx hb dL_law_1896 rfl (lv_at hl 5 rfl) ?_
      refine lv_iconst (v := 0) hx hb dL_law_1897 (by decide) ?_
      refine lo_lald hx hb hK hW.2.2 dL_law_1898 ?_
      refine lv_iload hx hb dL_law_1899 (lv_at hl 0 rfl) ?_
      refine lv_if_eq (tgt := 1908) hx hb dL_law_1901 (by decide) (fun c1901 => ?_) (fun c1901 => ?_)
      · refine lv_lconst (v := 0) hx hb dL_law_1908 (by decide) ?_
        refine lo_lcmp hx hb (ho.2 c1901) dL_law_1909 ?_
        refine lv_if_eq (tgt := 1915) hx hb dL_law_1910 (by decide) (fun c1910 => ?_) (fun c1910 => ?_)
        · refine lv_goto (tgt := 2753) hx hb dL_law_1915 (by decide) ?_
          refine W.widen (k := k0 + 60) (n := n0 + 6000) (by omega) (by omega) ?_
          exact kN _ _ _ _ _ _ _ hI hW hS hd0 (lv_sub hl [2, 3, 4, 5, 6] rfl)
        · exact absurd rfl c1910
      · refine lv_lconst (v := 1) hx hb dL_law_1904 (by decide) ?_
        refine lv_goto (tgt := 1909) hx hb dL_law_1905 (by decide) ?_
        refine lo_lcmp hx hb (ho.1 c1901) dL_law_1909 ?_
        refine lv_if_eq (tgt := 1915) hx hb dL_law_1910 (by decide) (fun c1910 => ?_) (fun c1910 => ?_)
        · refine lv_goto (tgt := 2753) hx hb dL_law_1915 (by decide) ?_
          refine W.widen (k := k0 + 60) (n := n0 + 6000) (by omega) (by omega) ?_
          exact kN _ _ _ _ _ _ _ hI hW hS hd0 (lv_sub hl [2, 3, 4, 5, 6] rfl)
        · exact absurd rfl c1910
  · exact absurd hw7 c1886
set_option maxHeartbeats 4000000 in
set_option maxRecDepth 100000 in
theorem lo_case_27 {p : Program} {l : Launch} {e : Env} {s : State} {m : MethodId} {below : List Frame} {meth : Method} {c : Code} {D : va_G} {cI cZ cG cL : ClassId} {ad am : Nat → Nat} {q1 q2 q3 oa b L : Nat} {xs : Nat → Int32} (C0 : lo_C p s m meth c l D cI cZ cG cL ad am q1 q2 q3 oa b L xs) {cs : List Choice} (hnb : nanBits ∈ cs) {I : gk_C → gk_C → Prop} {Q : State → Prop} {x4 : Int32} {k0 n0 : Nat} (hcd : lo_cd L x4) (hk : k0 + 60 ≤ room_1.cells) (hn : n0 + 6000 ≤ room_1.slots) (kN : lo_Next cs I p l e room_1 s m below meth c D cI cZ cL ad am oa b Q x4 (k0 + 60) (n0 + 6000)) (hH : ∀ (σ μ : gk_C) (o : Int64), I σ μ → ∀ (a0 : Int32) (a1 : Int32) (a2 : Int32), w_L_decide σ o a0 a1 a2 (fun k σ1 o1 => w_X9_decide μ a0 a1 a2 (fun r μ1 => μ1.2 0 = k ∧ (k = 0 → o1 = r.toInt64) ∧ I σ1 μ1))) {σ μ : gk_C} {o : Int64} {H : Heap} {locs : List Loc} {d0 : Drawn} {ls : Array Slot} (hI : I σ μ) (hW : lo_W D cI cZ cL ad am oa σ μ o H) (hS : va_S (lo_A s.heap.size) s.heap H locs) (hd0 : s.drawn.sameBut d0 cs) (hl : lv_has ls 9 [(0, .ref b), (1, .ref (ad 0)), (2, .ref (am 38)), (3, .ref oa), (4, .int x4)]) : W p l e room_1 (s.setDrawn d0) m #[Value.ref b] below meth c H locs k0 n0 Q (F0 m 1918 ls []) := by
  obtain ⟨hx, hb, hml, hown, hts0, hr, hlocks, hfl, hK0, hY0, hN0, hD, hX0, hbl⟩ := C0
  have hts := dr_words hts0 d0
  have hK := hK0.drawn d0
  have hY := hY0.drawn d0
  have hN : gk_NC (s.setDrawn d0) := hN0
  have hX : va_X b L xs (s.setDrawn d0) s.heap := hX0
  refine lv_aload_n hx hb dL_law_1918 rfl (lv_at hl 1 rfl) ?_
  refine lv_aload_n hx hb dL_law_1919 rfl (lv_at hl 0 rfl) ?_
  refine lv_iload hx hb dL_law_1920 (lv_at hl 4 rfl) ?_
  refine lv_iconst (v := 1) hx hb dL_law_1922 (by decide) ?_
  refine lv_iadd hx hb dL_law_1923 ?_
  refine lo_xald hx hb hX hbl hS (hcd 1 (by decide)) dL_law_1924 ?_
  refine lv_aload_n hx hb dL_law_1925 rfl (lv_at hl 0 rfl) ?_
  refine lv_iload hx hb dL_law_1926 (lv_at hl 4 rfl) ?_
  refine lv_iconst (v := 2) hx hb dL_law_1928 (by decide) ?_
  refine lv_iadd hx hb dL_law_1929 ?_
  refine lo_xald hx hb hX hbl hS (hcd 2 (by decide)) dL_law_1930 ?_
  refine lv_aload_n hx hb dL_law_1931 rfl (lv_at hl 0 rfl) ?_
  refine lv_iload hx hb dL_law_1932 (lv_at hl 4 rfl) ?_
  refine lv_iconst (v := 3) hx hb dL_law_1934 (by decide) ?_
  refine lv_iadd hx hb dL_law_1935 ?_
  refine lo_xald hx hb hX hbl hS (hcd 3 (by decide)) dL_law_1936 ?_
  refine lv_aload_n hx hb dL_law_1937 rfl (lv_at hl 3 rfl) ?_
  have hw := hH σ μ o hI ((xs (x4 + 1).toNatClampNeg)) ((xs (x4 + 2).toNatClampNeg)) ((xs (x4 + 3).toNatClampNeg))
  refine lo_callL ⟨hx, hb, hml, hown, hts⟩ (c_L_decide l hfl D cI cZ cG cL ad q1 q2 q3 oa hw) (vx_cwSW 5 hts (gk_gS ml_L_228 st_L_decide in_L co_L_decide) rfl rfl rfl (by decide +kernel) ⟨Nat.le_of_ble_eq_true rfl, Nat.le_of_ble_eq_true rfl⟩) hD hW hK hY hN hS rfl hl.1 (rest := []) rfl (lv_room (Nat.le_of_ble_eq_true rfl)) dL_law_1938 ⟨by omega, by omega⟩ (fun r5 σ5 o5 H locs hw hW hS => ?_)
  refine lv_istore (lv' := [(5, .int r5), (0, .ref b), (1, .ref (ad 0)), (2, .ref (am 38)), (3, .ref oa), (4, .int x4)]) hx hb dL_law_1941 hl (by decide) rfl (fun ls hl => ?_)
  refine lv_aload_n hx hb dL_law_1943 rfl (lv_at hl 3 rfl) ?_
  refine lv_aload_n hx hb dL_law_1944 rfl (lv_at hl 1 rfl) ?_
  refine lv_iload hx hb dL_law_1945 (lv_at hl 5 rfl) ?_
  refine lv_iconst (v := 1) hx hb dL_law_1947 (by decide) ?_
  refine lv_iadd hx hb dL_law_1948 ?_
  refine lo_xald hx hb hX hbl hS (hcd 1 (by decide)) dL_law_1949 ?_
  refine lv_aload_n hx hb dL_law_1950 rfl (lv_at hl 1 rfl) ?_
  refine lv_iload hx hb dL_law_1951 (lv_at hl 5 rfl) ?_
  refine lv_iconst (v := 2) hx hb dL_law_1953 (by decide) ?_
  refine lv_iadd hx hb dL_law_1954 ?_
  refine lo_xald hx hb hX hbl hS (hcd 2 (by decide)) dL_law_1955 ?_
  refine lv_aload_n hx hb dL_law_1956 rfl (lv_at hl 1 rfl) ?_
  refine lv_iload hx hb dL_law_1957 (lv_at hl 5 rfl) ?_
  refine lv_iconst (v := 3) hx hb dL_law_1959 (by decide) ?_
  refine lv_iadd hx hb dL_law_1960 ?_
  refine lo_xald hx hb hX hbl hS (hcd 3 (by decide)) dL_law_1961 ?_
  refine lo_callMi ⟨hx, hb, hml, hown, hts⟩ (c_X9_decide l D cI cZ cG cL am hw) (cwV 3 hts (gk_gV ml_L_230 im_X9_decide se_X9_decide in_X9 co_X9_decide) rfl rfl rfl (by decide +kernel) ⟨Nat.le_of_ble_eq_true rfl, Nat.le_of_ble_eq_true rfl⟩) (gk_recv hK.1 (mk_obj hW.2.1) rfl) hD hW hK hS rfl hl.1 (rest := []) rfl (lv_room (Nat.le_of_ble_eq_true rfl)) dL_law_1962 ⟨by omega, by omega⟩ (fun r6 μ6 H locs hw hW hS => ?_)
  obtain ⟨hth, ho, hI⟩ := hw
  refine lv_istore (lv' := [(6, .int r6), (5, .int r5), (0, .ref b), (1, .ref (ad 0)), (2, .ref (am 38)), (3, .ref oa), (4, .int x4)]) hx hb dL_law_1965 hl (by decide) rfl (fun ls hl => ?_)
  refine lv_aload_n hx hb dL_law_1967 rfl (lv_at hl 4 rfl) ?_
  refine lo_callMi ⟨hx, hb, hml, hown, hts⟩ (c_X9_thrown l D cI cZ cG cL am (Q := fun r => r = r5) hth) (cwV 0 hts (gk_gV ml_L_133 im_X9_thrown se_X9_thrown in_X9 co_X9_thrown) rfl rfl rfl (by decide +kernel) ⟨Nat.le_of_ble_eq_true rfl, Nat.le_of_ble_eq_true rfl⟩) (gk_recv hK.1 (mk_obj hW.2.1) rfl) hD hW hK hS rfl hl.1 (rest := []) rfl (lv_room (Nat.le_of_ble_eq_true rfl)) dL_law_1968 ⟨by omega, by omega⟩ (fun r7 μ7 H locs hw7 hW hS => ?_)
  rw [hw7.1] at hW
  have hw7 := hw7.2
  refine lv_iload hx hb dL_law_1971 (lv_at hl 1 rfl) ?_
  refine lv_icmp_eq (tgt := 1978) hx hb dL_law_1973 (by decide) (fun c1973 => ?_) (fun c1973 => ?_)
  · refine lv_iload hx hb dL_law_1978 (lv_at hl 1 rfl) ?_
    refine lv_if_ne (tgt := 1995) hx hb dL_law_1980 (by decide) (fun c1980 => ?_) (fun c1980 => ?_)
    · refine lv_goto (tgt := 2753) hx hb dL_law_1995 (by decide) ?_
      refine W.widen (k := k0 + 60) (n := n0 + 6000) (by omega) (by omega) ?_
      exact kN _ _ _ _ _ _ _ hI hW hS hd0 (lv_sub hl [2, 3, 4, 5, 6] rfl)
    · have ho := ho c1980
      refine lv_aload_n hx hb dL_law_1983 rfl (lv_at hl 5 rfl) ?_
      refine lv_iconst (v := 0) hx hb dL_law_1984 (by decide) ?_
      refine lo_lald hx hb hK hW.2.2 dL_law_1985 ?_
      refine lv_iload hx hb dL_law_1986 (lv_at hl 0 rfl) ?_
      refine lv_i2l (v := r6.toInt64) hx hb dL_law_1988 rfl ?_
      refine lo_lcmp hx hb (ho) dL_law_1989 ?_
      refine lv_if_eq (tgt := 1995) hx hb dL_law_1990 (by decide) (fun c1990 => ?_) (fun c1990 => ?_)
      · refine lv_goto (tgt := 2753) hx hb dL_law_1995 (by decide) ?_
        refine W.widen (k := k0 + 60) (n := n0 + 6000) (by omega) (by omega) ?_
        exact kN _ _ _ _ _ _ _ hI hW hS hd0 (lv_sub hl [2, 3, 4, 5, 6] rfl)
      · exact absurd rfl c1990
  · exact absurd hw7 c1973
set_option maxHeartbeats 4000000 in
set_option maxRecDepth 100000 in
theorem lo_case_28 {p : Program} {l : Launch} {e : Env} {s : State} {m : MethodId} {below : List Frame} {meth : Method} {c : Code} {D : va_G} {cI cZ cG cL : ClassId} {ad am : Nat → Nat} {q1 q2 q3 oa b L : Nat} {xs : Nat → Int32} (C0 : lo_C p s m meth c l D cI cZ cG cL ad am q1 q2 q3 oa b L xs) {cs : List Choice} (hnb : nanBits ∈ cs) {I : gk_C → gk_C → Prop} {Q : State → Prop} {x4 : Int32} {k0 n0 : Nat} (hcd : lo_cd L x4) (hk : k0 + 60 ≤ room_1.cells) (hn : n0 + 6000 ≤ room_1.slots) (kN : lo_Next cs I p l e room_1 s m below meth c D cI cZ cL ad am oa b Q x4 (k0 + 60) (n0 + 6000)) (hH : ∀ (σ μ : gk_C) (o : Int64), I σ μ → ∀ (a0 : Int32) (a1 : Int32) (a2 : Int32), w_L_why σ o a0 a1 a2 (fun k σ1 o1 => w_X9_why μ a0 a1 a2 (fun r μ1 => μ1.2 0 = k ∧ (k = 0 → o1 = r.toInt64) ∧ I σ1 μ1))) {σ μ : gk_C} {o : Int64} {H : Heap} {locs : List Loc} {d0 : Drawn} {ls : Array Slot} (hI : I σ μ) (hW : lo_W D cI cZ cL ad am oa σ μ o H) (hS : va_S (lo_A s.heap.size) s.heap H locs) (hd0 : s.drawn.sameBut d0 cs) (hl : lv_has ls 9 [(0, .ref b), (1, .ref (ad 0)), (2, .ref (am 38)), (3, .ref oa), (4, .int x4)]) : W p l e room_1 (s.setDrawn d0) m #[Value.ref b] below meth c H locs k0 n0 Q (F0 m 1998 ls []) := by
  obtain ⟨hx, hb, hml, hown, hts0, hr, hlocks, hfl, hK0, hY0, hN0, hD, hX0, hbl⟩ := C0
  have hts := dr_words hts0 d0
  have hK := hK0.drawn d0
  have hY := hY0.drawn d0
  have hN : gk_NC (s.setDrawn d0) := hN0
  have hX : va_X b L xs (s.setDrawn d0) s.heap := hX0
  refine lv_aload_n hx hb dL_law_1998 rfl (lv_at hl 1 rfl) ?_
  refine lv_aload_n hx hb dL_law_1999 rfl (lv_at hl 0 rfl) ?_
  refine lv_iload hx hb dL_law_2000 (lv_at hl 4 rfl) ?_
  refine lv_iconst (v := 1) hx hb dL_law_2002 (by decide) ?_
  refine lv_iadd hx hb dL_law_2003 ?_
  refine lo_xald hx hb hX hbl hS (hcd 1 (by decide)) dL_law_2004 ?_
  refine lv_aload_n hx hb dL_law_2005 rfl (lv_at hl 0 rfl) ?_
  refine lv_iload hx hb dL_law_2006 (lv_at hl 4 rfl) ?_
  refine lv_iconst (v := 2) hx hb dL_law_2008 (by decide) ?_
  refine lv_iadd hx hb dL_law_2009 ?_
  refine lo_xald hx hb hX hbl hS (hcd 2 (by decide)) dL_law_2010 ?_
  refine lv_aload_n hx hb dL_law_2011 rfl (lv_at hl 0 rfl) ?_
  refine lv_iload hx hb dL_law_2012 (lv_at hl 4 rfl) ?_
  refine lv_iconst (v := 3) hx hb dL_law_2014 (by decide) ?_
  refine lv_iadd hx hb dL_law_2015 ?_
  refine lo_xald hx hb hX hbl hS (hcd 3 (by decide)) dL_law_2016 ?_
  refine lv_aload_n hx hb dL_law_2017 rfl (lv_at hl 3 rfl) ?_
  have hw := hH σ μ o hI ((xs (x4 + 1).toNatClampNeg)) ((xs (x4 + 2).toNatClampNeg)) ((xs (x4 + 3).toNatClampNeg))
  refine lo_callL ⟨hx, hb, hml, hown, hts⟩ (c_L_why l hfl D cI cZ cG cL ad q1 q2 q3 oa hw) (vx_cwSW 5 hts (gk_gS ml_L_231 st_L_why in_L co_L_why) rfl rfl rfl (by decide +kernel) ⟨Nat.le_of_ble_eq_true rfl, Nat.le_of_ble_eq_true rfl⟩) hD hW hK hY hN hS rfl hl.1 (rest := []) rfl (lv_room (Nat.le_of_ble_eq_true rfl)) dL_law_2018 ⟨by omega, by omega⟩ (fun r5 σ5 o5 H locs hw hW hS => ?_)
  refine lv_istore (lv' := [(5, .int r5), (0, .ref b), (1, .ref (ad 0)), (2, .ref (am 38)), (3, .ref oa), (4, .int x4)]) hx hb dL_law_2021 hl (by decide) rfl (fun ls hl => ?_)
  refine lv_aload_n hx hb dL_law_2023 rfl (lv_at hl 3 rfl) ?_
  refine lv_aload_n hx hb dL_law_2024 rfl (lv_at hl 1 rfl) ?_
  refine lv_iload hx hb dL_law_2025 (lv_at hl 5 rfl) ?_
  refine lv_iconst (v := 1) hx hb dL_law_2027 (by decide) ?_
  refine lv_iadd hx hb dL_law_2028 ?_
  refine lo_xald hx hb hX hbl hS (hcd 1 (by decide)) dL_law_2029 ?_
  refine lv_aload_n hx hb dL_law_2030 rfl (lv_at hl 1 rfl) ?_
  refine lv_iload hx hb dL_law_2031 (lv_at hl 5 rfl) ?_
  refine lv_iconst (v := 2) hx hb dL_law_2033 (by decide) ?_
  refine lv_iadd hx hb dL_law_2034 ?_
  refine lo_xald hx hb hX hbl hS (hcd 2 (by decide)) dL_law_2035 ?_
  refine lv_aload_n hx hb dL_law_2036 rfl (lv_at hl 1 rfl) ?_
  refine lv_iload hx hb dL_law_2037 (lv_at hl 5 rfl) ?_
  refine lv_iconst (v := 3) hx hb dL_law_2039 (by decide) ?_
  refine lv_iadd hx hb dL_law_2040 ?_
  refine lo_xald hx hb hX hbl hS (hcd 3 (by decide)) dL_law_2041 ?_
  refine lo_callMi ⟨hx, hb, hml, hown, hts⟩ (c_X9_why l D cI cZ cG cL am hw) (cwV 3 hts (gk_gV ml_L_233 im_X9_why se_X9_why in_X9 co_X9_why) rfl rfl rfl (by decide +kernel) ⟨Nat.le_of_ble_eq_true rfl, Nat.le_of_ble_eq_true rfl⟩) (gk_recv hK.1 (mk_obj hW.2.1) rfl) hD hW hK hS rfl hl.1 (rest := []) rfl (lv_room (Nat.le_of_ble_eq_true rfl)) dL_law_2042 ⟨by omega, by omega⟩ (fun r6 μ6 H locs hw hW hS => ?_)
  obtain ⟨hth, ho, hI⟩ := hw
  refine lv_istore (lv' := [(6, .int r6), (5, .int r5), (0, .ref b), (1, .ref (ad 0)), (2, .ref (am 38)), (3, .ref oa), (4, .int x4)]) hx hb dL_law_2045 hl (by decide) rfl (fun ls hl => ?_)
  refine lv_aload_n hx hb dL_law_2047 rfl (lv_at hl 4 rfl) ?_
  refine lo_callMi ⟨hx, hb, hml, hown, hts⟩ (c_X9_thrown l D cI cZ cG cL am (Q := fun r => r = r5) hth) (cwV 0 hts (gk_gV ml_L_133 im_X9_thrown se_X9_thrown in_X9 co_X9_thrown) rfl rfl rfl (by decide +kernel) ⟨Nat.le_of_ble_eq_true rfl, Nat.le_of_ble_eq_true rfl⟩) (gk_recv hK.1 (mk_obj hW.2.1) rfl) hD hW hK hS rfl hl.1 (rest := []) rfl (lv_room (Nat.le_of_ble_eq_true rfl)) dL_law_2048 ⟨by omega, by omega⟩ (fun r7 μ7 H locs hw7 hW hS => ?_)
  rw [hw7.1] at hW
  have hw7 := hw7.2
  refine lv_iload hx hb dL_law_2051 (lv_at hl 1 rfl) ?_
  refine lv_icmp_eq (tgt := 2058) hx hb dL_law_2053 (by decide) (fun c2053 => ?_) (fun c2053 => ?_)
  · refine lv_iload hx hb dL_law_2058 (lv_at hl 1 rfl) ?_
    refine lv_if_ne (tgt := 2075) hx hb dL_law_2060 (by decide) (fun c2060 => ?_) (fun c2060 => ?_)
    · refine lv_goto (tgt := 2753) hx hb dL_law_2075 (by decide) ?_
      refine W.widen (k := k0 + 60) (n := n0 + 6000) (by omega) (by omega) ?_
      exact kN _ _ _ _ _ _ _ hI hW hS hd0 (lv_sub hl [2, 3, 4, 5, 6] rfl)
    · have ho := ho c2060
      refine lv_aload_n hx hb dL_law_2063 rfl (lv_at hl 5 rfl) ?_
      refine lv_iconst (v := 0) hx hb dL_law_2064 (by decide) ?_
      refine lo_lald hx hb hK hW.2.2 dL_law_2065 ?_
      refine lv_iload hx hb dL_law_2066 (lv_at hl 0 rfl) ?_
      refine lv_i2l (v := r6.toInt64) hx hb dL_law_2068 rfl ?_
      refine lo_lcmp hx hb (ho) dL_law_2069 ?_
      refine lv_if_eq (tgt := 2075) hx hb dL_law_2070 (by decide) (fun c2070 => ?_) (fun c2070 => ?_)
      · refine lv_goto (tgt := 2753) hx hb dL_law_2075 (by decide) ?_
        refine W.widen (k := k0 + 60) (n := n0 + 6000) (by omega) (by omega) ?_
        exact kN _ _ _ _ _ _ _ hI hW hS hd0 (lv_sub hl [2, 3, 4, 5, 6] rfl)
      · exact absurd rfl c2070
  · exact absurd hw7 c2053
set_option maxHeartbeats 4000000 in
set_option maxRecDepth 100000 in
theorem lo_case_29 {p : Program} {l : Launch} {e : Env} {s : State} {m : MethodId} {below : List Frame} {meth : Method} {c : Code} {D : va_G} {cI cZ cG cL : ClassId} {ad am : Nat → Nat} {q1 q2 q3 oa b L : Nat} {xs : Nat → Int32} (C0 : lo_C p s m meth c l D cI cZ cG cL ad am q1 q2 q3 oa b L xs) {cs : List Choice} (hnb : nanBits ∈ cs) {I : gk_C → gk_C → Prop} {Q : State → Prop} {x4 : Int32} {k0 n0 : Nat} (hcd : lo_cd L x4) (hk : k0 + 60 ≤ room_1.cells) (hn : n0 + 6000 ≤ room_1.slots) (kN : lo_Next cs I p l e room_1 s m below meth c D cI cZ cL ad am oa b Q x4 (k0 + 60) (n0 + 6000)) (hH : ∀ (σ μ : gk_C) (o : Int64), I σ μ → ∀ (a0 : Int32) (a1 : Int32) (a2 : Int32), w_L_access σ o a0 a1 a2 (fun k σ1 o1 => w_X9_access μ a0 a1 a2 (fun r μ1 => μ1.2 0 = k ∧ (k = 0 → o1 = r.toInt64) ∧ I σ1 μ1))) {σ μ : gk_C} {o : Int64} {H : Heap} {locs : List Loc} {d0 : Drawn} {ls : Array Slot} (hI : I σ μ) (hW : lo_W D cI cZ cL ad am oa σ μ o H) (hS : va_S (lo_A s.heap.size) s.heap H locs) (hd0 : s.drawn.sameBut d0 cs) (hl : lv_has ls 9 [(0, .ref b), (1, .ref (ad 0)), (2, .ref (am 38)), (3, .ref oa), (4, .int x4)]) : W p l e room_1 (s.setDrawn d0) m #[Value.ref b] below meth c H locs k0 n0 Q (F0 m 2078 ls []) := by
  obtain ⟨hx, hb, hml, hown, hts0, hr, hlocks, hfl, hK0, hY0, hN0, hD, hX0, hbl⟩ := C0
  have hts := dr_words hts0 d0
  have hK := hK0.drawn d0
  have hY := hY0.drawn d0
  have hN : gk_NC (s.setDrawn d0) := hN0
  have hX : va_X b L xs (s.setDrawn d0) s.heap := hX0
  refine lv_aload_n hx hb dL_law_2078 rfl (lv_at hl 1 rfl) ?_
  refine lv_aload_n hx hb dL_law_2079 rfl (lv_at hl 0 rfl) ?_
  refine lv_iload hx hb dL_law_2080 (lv_at hl 4 rfl) ?_
  refine lv_iconst (v := 1) hx hb dL_law_2082 (by decide) ?_
  refine lv_iadd hx hb dL_law_2083 ?_
  refine lo_xald hx hb hX hbl hS (hcd 1 (by decide)) dL_law_2084 ?_
  refine lv_aload_n hx hb dL_law_2085 rfl (lv_at hl 0 rfl) ?_
  refine lv_iload hx hb dL_law_2086 (lv_at hl 4 rfl) ?_
  refine lv_iconst (v := 2) hx hb dL_law_2088 (by decide) ?_
  refine lv_iadd hx hb dL_law_2089 ?_
  refine lo_xald hx hb hX hbl hS (hcd 2 (by decide)) dL_law_2090 ?_
  refine lv_aload_n hx hb dL_law_2091 rfl (lv_at hl 0 rfl) ?_
  refine lv_iload hx hb dL_law_2092 (lv_at hl 4 rfl) ?_
  refine lv_iconst (v := 3) hx hb dL_law_2094 (by decide) ?_
  refine lv_iadd hx hb dL_law_2095 ?_
  refine lo_xald hx hb hX hbl hS (hcd 3 (by decide)) dL_law_2096 ?_
  refine lv_aload_n hx hb dL_law_2097 rfl (lv_at hl 3 rfl) ?_
  have hw := hH σ μ o hI ((xs (x4 + 1).toNatClampNeg)) ((xs (x4 + 2).toNatClampNeg)) ((xs (x4 + 3).toNatClampNeg))
  refine lo_callL ⟨hx, hb, hml, hown, hts⟩ (c_L_access l hfl D cI cZ cG cL ad q1 q2 q3 oa hw) (vx_cwSW 5 hts (gk_gS ml_L_234 st_L_access in_L co_L_access) rfl rfl rfl (by decide +kernel) ⟨Nat.le_of_ble_eq_true rfl, Nat.le_of_ble_eq_true rfl⟩) hD hW hK hY hN hS rfl hl.1 (rest := []) rfl (lv_room (Nat.le_of_ble_eq_true rfl)) dL_law_2098 ⟨by omega, by omega⟩ (fun r5 σ5 o5 H locs hw hW hS => ?_)
  refine lv_istore (lv' := [(5, .int r5), (0, .ref b), (1, .ref (ad 0)), (2, .ref (am 38)), (3, .ref oa), (4, .int x4)]) hx hb dL_law_2101 hl (by decide) rfl (fun ls hl => ?_)
  refine lv_aload_n hx hb dL_law_2103 rfl (lv_at hl 3 rfl) ?_
  refine lv_aload_n hx hb dL_law_2104 rfl (lv_at hl 1 rfl) ?_
  refine lv_iload hx hb dL_law_2105 (lv_at hl 5 rfl) ?_
  refine lv_iconst (v := 1) hx hb dL_law_2107 (by decide) ?_
  refine lv_iadd hx hb dL_law_2108 ?_
  refine lo_xald hx hb hX hbl hS (hcd 1 (by decide)) dL_law_2109 ?_
  refine lv_aload_n hx hb dL_law_2110 rfl (lv_at hl 1 rfl) ?_
  refine lv_iload hx hb dL_law_2111 (lv_at hl 5 rfl) ?_
  refine lv_iconst (v := 2) hx hb dL_law_2113 (by decide) ?_
  refine lv_iadd hx hb dL_law_2114 ?_
  refine lo_xald hx hb hX hbl hS (hcd 2 (by decide)) dL_law_2115 ?_
  refine lv_aload_n hx hb dL_law_2116 rfl (lv_at hl 1 rfl) ?_
  refine lv_iload hx hb dL_law_2117 (lv_at hl 5 rfl) ?_
  refine lv_iconst (v := 3) hx hb dL_law_2119 (by decide) ?_
  refine lv_iadd hx hb dL_law_2120 ?_
  refine lo_xald hx hb hX hbl hS (hcd 3 (by decide)) dL_law_2121 ?_
  refine lo_callMi ⟨hx, hb, hml, hown, hts⟩ (c_X9_access l D cI cZ cG cL am hw) (cwV 3 hts (gk_gV ml_L_236 im_X9_access se_X9_access in_X9 co_X9_access) rfl rfl rfl (by decide +kernel) ⟨Nat.le_of_ble_eq_true rfl, Nat.le_of_ble_eq_true rfl⟩) (gk_recv hK.1 (mk_obj hW.2.1) rfl) hD hW hK hS rfl hl.1 (rest := []) rfl (lv_room (Nat.le_of_ble_eq_true rfl)) dL_law_2122 ⟨by omega, by omega⟩ (fun r6 μ6 H locs hw hW hS => ?_)
  obtain ⟨hth, ho, hI⟩ := hw
  refine lv_istore (lv' := [(6, .int r6), (5, .int r5), (0, .ref b), (1, .ref (ad 0)), (2, .ref (am 38)), (3, .ref oa), (4, .int x4)]) hx hb dL_law_2125 hl (by decide) rfl (fun ls hl => ?_)
  refine lv_aload_n hx hb dL_law_2127 rfl (lv_at hl 4 rfl) ?_
  refine lo_callMi ⟨hx, hb, hml, hown, hts⟩ (c_X9_thrown l D cI cZ cG cL am (Q := fun r => r = r5) hth) (cwV 0 hts (gk_gV ml_L_133 im_X9_thrown se_X9_thrown in_X9 co_X9_thrown) rfl rfl rfl (by decide +kernel) ⟨Nat.le_of_ble_eq_true rfl, Nat.le_of_ble_eq_true rfl⟩) (gk_recv hK.1 (mk_obj hW.2.1) rfl) hD hW hK hS rfl hl.1 (rest := []) rfl (lv_room (Nat.le_of_ble_eq_true rfl)) dL_law_2128 ⟨by omega, by omega⟩ (fun r7 μ7 H locs hw7 hW hS => ?_)
  rw [hw7.1] at hW
  have hw7 := hw7.2
  refine lv_iload hx hb dL_law_2131 (lv_at hl 1 rfl) ?_
  refine lv_icmp_eq (tgt := 2138) hx hb dL_law_2133 (by decide) (fun c2133 => ?_) (fun c2133 => ?_)
  · refine lv_iload hx hb dL_law_2138 (lv_at hl 1 rfl) ?_
    refine lv_if_ne (tgt := 2155) hx hb dL_law_2140 (by decide) (fun c2140 => ?_) (fun c2140 => ?_)
    · refine lv_goto (tgt := 2753) hx hb dL_law_2155 (by decide) ?_
      refine W.widen (k := k0 + 60) (n := n0 + 6000) (by omega) (by omega) ?_
      exact kN _ _ _ _ _ _ _ hI hW hS hd0 (lv_sub hl [2, 3, 4, 5, 6] rfl)
    · have ho := ho c2140
      refine lv_aload_n hx hb dL_law_2143 rfl (lv_at hl 5 rfl) ?_
      refine lv_iconst (v := 0) hx hb dL_law_2144 (by decide) ?_
      refine lo_lald hx hb hK hW.2.2 dL_law_2145 ?_
      refine lv_iload hx hb dL_law_2146 (lv_at hl 0 rfl) ?_
      refine lv_i2l (v := r6.toInt64) hx hb dL_law_2148 rfl ?_
      refine lo_lcmp hx hb (ho) dL_law_2149 ?_
      refine lv_if_eq (tgt := 2155) hx hb dL_law_2150 (by decide) (fun c2150 => ?_) (fun c2150 => ?_)
      · refine lv_goto (tgt := 2753) hx hb dL_law_2155 (by decide) ?_
        refine W.widen (k := k0 + 60) (n := n0 + 6000) (by omega) (by omega) ?_
        exact kN _ _ _ _ _ _ _ hI hW hS hd0 (lv_sub hl [2, 3, 4, 5, 6] rfl)
      · exact absurd rfl c2150
  · exact absurd hw7 c2133
set_option maxHeartbeats 4000000 in
set_option maxRecDepth 100000 in
theorem lo_case_30 {p : Program} {l : Launch} {e : Env} {s : State} {m : MethodId} {below : List Frame} {meth : Method} {c : Code} {D : va_G} {cI cZ cG cL : ClassId} {ad am : Nat → Nat} {q1 q2 q3 oa b L : Nat} {xs : Nat → Int32} (C0 : lo_C p s m meth c l D cI cZ cG cL ad am q1 q2 q3 oa b L xs) {cs : List Choice} (hnb : nanBits ∈ cs) {I : gk_C → gk_C → Prop} {Q : State → Prop} {x4 : Int32} {k0 n0 : Nat} (hcd : lo_cd L x4) (hk : k0 + 60 ≤ room_1.cells) (hn : n0 + 6000 ≤ room_1.slots) (kN : lo_Next cs I p l e room_1 s m below meth c D cI cZ cL ad am oa b Q x4 (k0 + 60) (n0 + 6000)) (hH : ∀ (σ μ : gk_C) (o : Int64), I σ μ → ∀ (a0 : Int32), w_L_counted σ o a0 (fun k σ1 o1 => w_X9_counted μ a0 (fun r μ1 => μ1.2 0 = k ∧ (k = 0 → o1 = r.toInt64) ∧ I σ1 μ1))) {σ μ : gk_C} {o : Int64} {H : Heap} {locs : List Loc} {d0 : Drawn} {ls : Array Slot} (hI : I σ μ) (hW : lo_W D cI cZ cL ad am oa σ μ o H) (hS : va_S (lo_A s.heap.size) s.heap H locs) (hd0 : s.drawn.sameBut d0 cs) (hl : lv_has ls 9 [(0, .ref b), (1, .ref (ad 0)), (2, .ref (am 38)), (3, .ref oa), (4, .int x4)]) : W p l e room_1 (s.setDrawn d0) m #[Value.ref b] below meth c H locs k0 n0 Q (F0 m 2158 ls []) := by
  obtain ⟨hx, hb, hml, hown, hts0, hr, hlocks, hfl, hK0, hY0, hN0, hD, hX0, hbl⟩ := C0
  have hts := dr_words hts0 d0
  have hK := hK0.drawn d0
  have hY := hY0.drawn d0
  have hN : gk_NC (s.setDrawn d0) := hN0
  have hX : va_X b L xs (s.setDrawn d0) s.heap := hX0
  refine lv_aload_n hx hb dL_law_2158 rfl (lv_at hl 1 rfl) ?_
  refine lv_aload_n hx hb dL_law_2159 rfl (lv_at hl 0 rfl) ?_
  refine lv_iload hx hb dL_law_2160 (lv_at hl 4 rfl) ?_
  refine lv_iconst (v := 1) hx hb dL_law_2162 (by decide) ?_
  refine lv_iadd hx hb dL_law_2163 ?_
  refine lo_xald hx hb hX hbl hS (hcd 1 (by decide)) dL_law_2164 ?_
  refine lv_aload_n hx hb dL_law_2165 rfl (lv_at hl 3 rfl) ?_
  have hw := hH σ μ o hI ((xs (x4 + 1).toNatClampNeg))
  refine lo_callL ⟨hx, hb, hml, hown, hts⟩ (c_L_counted l hfl D cI cZ cG cL ad q1 q2 q3 oa hw) (vx_cwSW 3 hts (gk_gS ml_L_237 st_L_counted in_L co_L_counted) rfl rfl rfl (by decide +kernel) ⟨Nat.le_of_ble_eq_true rfl, Nat.le_of_ble_eq_true rfl⟩) hD hW hK hY hN hS rfl hl.1 (rest := []) rfl (lv_room (Nat.le_of_ble_eq_true rfl)) dL_law_2166 ⟨by omega, by omega⟩ (fun r5 σ5 o5 H locs hw hW hS => ?_)
  refine lv_istore (lv' := [(5, .int r5), (0, .ref b), (1, .ref (ad 0)), (2, .ref (am 38)), (3, .ref oa), (4, .int x4)]) hx hb dL_law_2169 hl (by decide) rfl (fun ls hl => ?_)
  refine lv_aload_n hx hb dL_law_2171 rfl (lv_at hl 3 rfl) ?_
  refine lv_aload_n hx hb dL_law_2172 rfl (lv_at hl 1 rfl) ?_
  refine lv_iload hx hb dL_law_2173 (lv_at hl 5 rfl) ?_
  refine lv_iconst (v := 1) hx hb dL_law_2175 (by decide) ?_
  refine lv_iadd hx hb dL_law_2176 ?_
  refine lo_xald hx hb hX hbl hS (hcd 1 (by decide)) dL_law_2177 ?_
  refine lo_callMi ⟨hx, hb, hml, hown, hts⟩ (c_X9_counted l D cI cZ cG cL am hw) (cwV 1 hts (gk_gV ml_L_239 im_X9_counted se_X9_counted in_X9 co_X9_counted) rfl rfl rfl (by decide +kernel) ⟨Nat.le_of_ble_eq_true rfl, Nat.le_of_ble_eq_true rfl⟩) (gk_recv hK.1 (mk_obj hW.2.1) rfl) hD hW hK hS rfl hl.1 (rest := []) rfl (lv_room (Nat.le_of_ble_eq_true rfl)) dL_law_2178 ⟨by omega, by omega⟩ (fun r6 μ6 H locs hw hW hS => ?_)
  obtain ⟨hth, ho, hI⟩ := hw
  refine lv_istore (lv' := [(6, .int r6), (5, .int r5), (0, .ref b), (1, .ref (ad 0)), (2, .ref (am 38)), (3, .ref oa), (4, .int x4)]) hx hb dL_law_2181 hl (by decide) rfl (fun ls hl => ?_)
  refine lv_aload_n hx hb dL_law_2183 rfl (lv_at hl 4 rfl) ?_
  refine lo_callMi ⟨hx, hb, hml, hown, hts⟩ (c_X9_thrown l D cI cZ cG cL am (Q := fun r => r = r5) hth) (cwV 0 hts (gk_gV ml_L_133 im_X9_thrown se_X9_thrown in_X9 co_X9_thrown) rfl rfl rfl (by decide +kernel) ⟨Nat.le_of_ble_eq_true rfl, Nat.le_of_ble_eq_true rfl⟩) (gk_recv hK.1 (mk_obj hW.2.1) rfl) hD hW hK hS rfl hl.1 (rest := []) rfl (lv_room (Nat.le_of_ble_eq_true rfl)) dL_law_2184 ⟨by omega, by omega⟩ (fun r7 μ7 H locs hw7 hW hS => ?_)
  rw [hw7.1] at hW
  have hw7 := hw7.2
  refine lv_iload hx hb dL_law_2187 (lv_at hl 1 rfl) ?_
  refine lv_icmp_eq (tgt := 2194) hx hb dL_law_2189 (by decide) (fun c2189 => ?_) (fun c2189 => ?_)
  · refine lv_iload hx hb dL_law_2194 (lv_at hl 1 rfl) ?_
    refine lv_if_ne (tgt := 2211) hx hb dL_law_2196 (by decide) (fun c2196 => ?_) (fun c2196 => ?_)
    · refine lv_goto (tgt := 2753) hx hb dL_law_2211 (by decide) ?_
      refine W.widen (k := k0 + 60) (n := n0 + 6000) (by omega) (by omega) ?_
      exact kN _ _ _ _ _ _ _ hI hW hS hd0 (lv_sub hl [2, 3, 4, 5, 6] rfl)
    · have ho := ho c2196
      refine lv_aload_n hx hb dL_law_2199 rfl (lv_at hl 5 rfl) ?_
      refine lv_iconst (v := 0) hx hb dL_law_2200 (by decide) ?_
      refine lo_lald hx hb hK hW.2.2 dL_law_2201 ?_
      refine lv_iload hx hb dL_law_2202 (lv_at hl 0 rfl) ?_
      refine lv_i2l (v := r6.toInt64) hx hb dL_law_2204 rfl ?_
      refine lo_lcmp hx hb (ho) dL_law_2205 ?_
      refine lv_if_eq (tgt := 2211) hx hb dL_law_2206 (by decide) (fun c2206 => ?_) (fun c2206 => ?_)
      · refine lv_goto (tgt := 2753) hx hb dL_law_2211 (by decide) ?_
        refine W.widen (k := k0 + 60) (n := n0 + 6000) (by omega) (by omega) ?_
        exact kN _ _ _ _ _ _ _ hI hW hS hd0 (lv_sub hl [2, 3, 4, 5, 6] rfl)
      · exact absurd rfl c2206
  · exact absurd hw7 c2189
set_option maxHeartbeats 4000000 in
set_option maxRecDepth 100000 in
theorem lo_case_31 {p : Program} {l : Launch} {e : Env} {s : State} {m : MethodId} {below : List Frame} {meth : Method} {c : Code} {D : va_G} {cI cZ cG cL : ClassId} {ad am : Nat → Nat} {q1 q2 q3 oa b L : Nat} {xs : Nat → Int32} (C0 : lo_C p s m meth c l D cI cZ cG cL ad am q1 q2 q3 oa b L xs) {cs : List Choice} (hnb : nanBits ∈ cs) {I : gk_C → gk_C → Prop} {Q : State → Prop} {x4 : Int32} {k0 n0 : Nat} (hcd : lo_cd L x4) (hk : k0 + 60 ≤ room_1.cells) (hn : n0 + 6000 ≤ room_1.slots) (kN : lo_Next cs I p l e room_1 s m below meth c D cI cZ cL ad am oa b Q x4 (k0 + 60) (n0 + 6000)) (hH : ∀ (σ μ : gk_C) (o : Int64), I σ μ → ∀ (a0 : Int32) (a1 : Int32), w_L_done σ o a0 a1 (fun k σ1 o1 => w_X9_done μ a0 a1 (fun r μ1 => μ1.2 0 = k ∧ (k = 0 → o1 = r.toInt64) ∧ I σ1 μ1))) {σ μ : gk_C} {o : Int64} {H : Heap} {locs : List Loc} {d0 : Drawn} {ls : Array Slot} (hI : I σ μ) (hW : lo_W D cI cZ cL ad am oa σ μ o H) (hS : va_S (lo_A s.heap.size) s.heap H locs) (hd0 : s.drawn.sameBut d0 cs) (hl : lv_has ls 9 [(0, .ref b), (1, .ref (ad 0)), (2, .ref (am 38)), (3, .ref oa), (4, .int x4)]) : W p l e room_1 (s.setDrawn d0) m #[Value.ref b] below meth c H locs k0 n0 Q (F0 m 2214 ls []) := by
  obtain ⟨hx, hb, hml, hown, hts0, hr, hlocks, hfl, hK0, hY0, hN0, hD, hX0, hbl⟩ := C0
  have hts := dr_words hts0 d0
  have hK := hK0.drawn d0
  have hY := hY0.drawn d0
  have hN : gk_NC (s.setDrawn d0) := hN0
  have hX : va_X b L xs (s.setDrawn d0) s.heap := hX0
  refine lv_aload_n hx hb dL_law_2214 rfl (lv_at hl 1 rfl) ?_
  refine lv_aload_n hx hb dL_law_2215 rfl (lv_at hl 0 rfl) ?_
  refine lv_iload hx hb dL_law_2216 (lv_at hl 4 rfl) ?_
  refine lv_iconst (v := 1) hx hb dL_law_2218 (by decide) ?_
  refine lv_iadd hx hb dL_law_2219 ?_
  refine lo_xald hx hb hX hbl hS (hcd 1 (by decide)) dL_law_2220 ?_
  refine lv_aload_n hx hb dL_law_2221 rfl (lv_at hl 0 rfl) ?_
  refine lv_iload hx hb dL_law_2222 (lv_at hl 4 rfl) ?_
  refine lv_iconst (v := 2) hx hb dL_law_2224 (by decide) ?_
  refine lv_iadd hx hb dL_law_2225 ?_
  refine lo_xald hx hb hX hbl hS (hcd 2 (by decide)) dL_law_2226 ?_
  refine lv_aload_n hx hb dL_law_2227 rfl (lv_at hl 3 rfl) ?_
  have hw := hH σ μ o hI ((xs (x4 + 1).toNatClampNeg)) ((xs (x4 + 2).toNatClampNeg))
  refine lo_callL ⟨hx, hb, hml, hown, hts⟩ (c_L_done l hfl D cI cZ cG cL ad q1 q2 q3 oa hw) (vx_cwSW 4 hts (gk_gS ml_L_240 st_L_done in_L co_L_done) rfl rfl rfl (by decide +kernel) ⟨Nat.le_of_ble_eq_true rfl, Nat.le_of_ble_eq_true rfl⟩) hD hW hK hY hN hS rfl hl.1 (rest := []) rfl (lv_room (Nat.le_of_ble_eq_true rfl)) dL_law_2228 ⟨by omega, by omega⟩ (fun r5 σ5 o5 H locs hw hW hS => ?_)
  refine lv_istore (lv' := [(5, .int r5), (0, .ref b), (1, .ref (ad 0)), (2, .ref (am 38)), (3, .ref oa), (4, .int x4)]) hx hb dL_law_2231 hl (by decide) rfl (fun ls hl => ?_)
  refine lv_aload_n hx hb dL_law_2233 rfl (lv_at hl 3 rfl) ?_
  refine lv_aload_n hx hb dL_law_2234 rfl (lv_at hl 1 rfl) ?_
  refine lv_iload hx hb dL_law_2235 (lv_at hl 5 rfl) ?_
  refine lv_iconst (v := 1) hx hb dL_law_2237 (by decide) ?_
  refine lv_iadd hx hb dL_law_2238 ?_
  refine lo_xald hx hb hX hbl hS (hcd 1 (by decide)) dL_law_2239 ?_
  refine lv_aload_n hx hb dL_law_2240 rfl (lv_at hl 1 rfl) ?_
  refine lv_iload hx hb dL_law_2241 (lv_at hl 5 rfl) ?_
  refine lv_iconst (v := 2) hx hb dL_law_2243 (by decide) ?_
  refine lv_iadd hx hb dL_law_2244 ?_
  refine lo_xald hx hb hX hbl hS (hcd 2 (by decide)) dL_law_2245 ?_
  refine lo_callMi ⟨hx, hb, hml, hown, hts⟩ (c_X9_done l D cI cZ cG cL am hw) (cwV 2 hts (gk_gV ml_L_242 im_X9_done se_X9_done in_X9 co_X9_done) rfl rfl rfl (by decide +kernel) ⟨Nat.le_of_ble_eq_true rfl, Nat.le_of_ble_eq_true rfl⟩) (gk_recv hK.1 (mk_obj hW.2.1) rfl) hD hW hK hS rfl hl.1 (rest := []) rfl (lv_room (Nat.le_of_ble_eq_true rfl)) dL_law_2246 ⟨by omega, by omega⟩ (fun r6 μ6 H locs hw hW hS => ?_)
  obtain ⟨hth, ho, hI⟩ := hw
  refine lv_istore (lv' := [(6, .int r6), (5, .int r5), (0, .ref b), (1, .ref (ad 0)), (2, .ref (am 38)), (3, .ref oa), (4, .int x4)]) hx hb dL_law_2249 hl (by decide) rfl (fun ls hl => ?_)
  refine lv_aload_n hx hb dL_law_2251 rfl (lv_at hl 4 rfl) ?_
  refine lo_callMi ⟨hx, hb, hml, hown, hts⟩ (c_X9_thrown l D cI cZ cG cL am (Q := fun r => r = r5) hth) (cwV 0 hts (gk_gV ml_L_133 im_X9_thrown se_X9_thrown in_X9 co_X9_thrown) rfl rfl rfl (by decide +kernel) ⟨Nat.le_of_ble_eq_true rfl, Nat.le_of_ble_eq_true rfl⟩) (gk_recv hK.1 (mk_obj hW.2.1) rfl) hD hW hK hS rfl hl.1 (rest := []) rfl (lv_room (Nat.le_of_ble_eq_true rfl)) dL_law_2252 ⟨by omega, by omega⟩ (fun r7 μ7 H locs hw7 hW hS => ?_)
  rw [hw7.1] at hW
  have hw7 := hw7.2
  refine lv_iload hx hb dL_law_2255 (lv_at hl 1 rfl) ?_
  refine lv_icmp_eq (tgt := 2262) hx hb dL_law_2257 (by decide) (fun c2257 => ?_) (fun c2257 => ?_)
  · refine lv_iload hx hb dL_law_2262 (lv_at hl 1 rfl) ?_
    refine lv_if_ne (tgt := 2279) hx hb dL_law_2264 (by decide) (fun c2264 => ?_) (fun c2264 => ?_)
    · refine lv_goto (tgt := 2753) hx hb dL_law_2279 (by decide) ?_
      refine W.widen (k := k0 + 60) (n := n0 + 6000) (by omega) (by omega) ?_
      exact kN _ _ _ _ _ _ _ hI hW hS hd0 (lv_sub hl [2, 3, 4, 5, 6] rfl)
    · have ho := ho c2264
      refine lv_aload_n hx hb dL_law_2267 rfl (lv_at hl 5 rfl) ?_
      refine lv_iconst (v := 0) hx hb dL_law_2268 (by decide) ?_
      refine lo_lald hx hb hK hW.2.2 dL_law_2269 ?_
      refine lv_iload hx hb dL_law_2270 (lv_at hl 0 rfl) ?_
      refine lv_i2l (v := r6.toInt64) hx hb dL_law_2272 rfl ?_
      refine lo_lcmp hx hb (ho) dL_law_2273 ?_
      refine lv_if_eq (tgt := 2279) hx hb dL_law_2274 (by decide) (fun c2274 => ?_) (fun c2274 => ?_)
      · refine lv_goto (tgt := 2753) hx hb dL_law_2279 (by decide) ?_
        refine W.widen (k := k0 + 60) (n := n0 + 6000) (by omega) (by omega) ?_
        exact kN _ _ _ _ _ _ _ hI hW hS hd0 (lv_sub hl [2, 3, 4, 5, 6] rfl)
      · exact absurd rfl c2274
  · exact absurd hw7 c2257
set_option maxHeartbeats 4000000 in
set_option maxRecDepth 100000 in
theorem lo_case_32 {p : Program} {l : Launch} {e : Env} {s : State} {m : MethodId} {below : List Frame} {meth : Method} {c : Code} {D : va_G} {cI cZ cG cL : ClassId} {ad am : Nat → Nat} {q1 q2 q3 oa b L : Nat} {xs : Nat → Int32} (C0 : lo_C p s m meth c l D cI cZ cG cL ad am q1 q2 q3 oa b L xs) {cs : List Choice} (hnb : nanBits ∈ cs) {I : gk_C → gk_C → Prop} {Q : State → Prop} {x4 : Int32} {k0 n0 : Nat} (hcd : lo_cd L x4) (hk : k0 + 60 ≤ room_1.cells) (hn : n0 + 6000 ≤ room_1.slots) (kN : lo_Next cs I p l e room_1 s m below meth c D cI cZ cL ad am oa b Q x4 (k0 + 60) (n0 + 6000)) (hH : ∀ (σ μ : gk_C) (o : Int64), I σ μ → ∀ (a0 : Int32) (a1 : Int32), w_L_who σ o a0 a1 (fun k σ1 o1 => w_X9_who μ a0 a1 (fun r μ1 => μ1.2 0 = k ∧ (k = 0 → o1 = r.toInt64) ∧ I σ1 μ1))) {σ μ : gk_C} {o : Int64} {H : Heap} {locs : List Loc} {d0 : Drawn} {ls : Array Slot} (hI : I σ μ) (hW : lo_W D cI cZ cL ad am oa σ μ o H) (hS : va_S (lo_A s.heap.size) s.heap H locs) (hd0 : s.drawn.sameBut d0 cs) (hl : lv_has ls 9 [(0, .ref b), (1, .ref (ad 0)), (2, .ref (am 38)), (3, .ref oa), (4, .int x4)]) : W p l e room_1 (s.setDrawn d0) m #[Value.ref b] below meth c H locs k0 n0 Q (F0 m 2282 ls []) := by
  obtain ⟨hx, hb, hml, hown, hts0, hr, hlocks, hfl, hK0, hY0, hN0, hD, hX0, hbl⟩ := C0
  have hts := dr_words hts0 d0
  have hK := hK0.drawn d0
  have hY := hY0.drawn d0
  have hN : gk_NC (s.setDrawn d0) := hN0
  have hX : va_X b L xs (s.setDrawn d0) s.heap := hX0
  refine lv_aload_n hx hb dL_law_2282 rfl (lv_at hl 1 rfl) ?_
  refine lv_aload_n hx hb dL_law_2283 rfl (lv_at hl 0 rfl) ?_
  refine lv_iload hx hb dL_law_2284 (lv_at hl 4 rfl) ?_
  refine lv_iconst (v := 1) hx hb dL_law_2286 (by decide) ?_
  refine lv_iadd hx hb dL_law_2287 ?_
  refine lo_xald hx hb hX hbl hS (hcd 1 (by decide)) dL_law_2288 ?_
  refine lv_aload_n hx hb dL_law_2289 rfl (lv_at hl 0 rfl) ?_
  refine lv_iload hx hb dL_law_2290 (lv_at hl 4 rfl) ?_
  refine lv_iconst (v := 2) hx hb dL_law_2292 (by decide) ?_
  refine lv_iadd hx hb dL_law_2293 ?_
  refine lo_xald hx hb hX hbl hS (hcd 2 (by decide)) dL_law_2294 ?_
  refine lv_aload_n hx hb dL_law_2295 rfl (lv_at hl 3 rfl) ?_
  have hw := hH σ μ o hI ((xs (x4 + 1).toNatClampNeg)) ((xs (x4 + 2).toNatClampNeg))
  refine lo_callL ⟨hx, hb, hml, hown, hts⟩ (c_L_who l hfl D cI cZ cG cL ad q1 q2 q3 oa hw) (vx_cwSW 4 hts (gk_gS ml_L_243 st_L_who in_L co_L_who) rfl rfl rfl (by decide +kernel) ⟨Nat.le_of_ble_eq_true rfl, Nat.le_of_ble_eq_true rfl⟩) hD hW hK hY hN hS rfl hl.1 (rest := []) rfl (lv_room (Nat.le_of_ble_eq_true rfl)) dL_law_2296 ⟨by omega, by omega⟩ (fun r5 σ5 o5 H locs hw hW hS => ?_)
  refine lv_istore (lv' := [(5, .int r5), (0, .ref b), (1, .ref (ad 0)), (2, .ref (am 38)), (3, .ref oa), (4, .int x4)]) hx hb dL_law_2299 hl (by decide) rfl (fun ls hl => ?_)
  refine lv_aload_n hx hb dL_law_2301 rfl (lv_at hl 3 rfl) ?_
  refine lv_aload_n hx hb dL_law_2302 rfl (lv_at hl 1 rfl) ?_
  refine lv_iload hx hb dL_law_2303 (lv_at hl 5 rfl) ?_
  refine lv_iconst (v := 1) hx hb dL_law_2305 (by decide) ?_
  refine lv_iadd hx hb dL_law_2306 ?_
  refine lo_xald hx hb hX hbl hS (hcd 1 (by decide)) dL_law_2307 ?_
  refine lv_aload_n hx hb dL_law_2308 rfl (lv_at hl 1 rfl) ?_
  refine lv_iload hx hb dL_law_2309 (lv_at hl 5 rfl) ?_
  refine lv_iconst (v := 2) hx hb dL_law_2311 (by decide) ?_
  refine lv_iadd hx hb dL_law_2312 ?_
  refine lo_xald hx hb hX hbl hS (hcd 2 (by decide)) dL_law_2313 ?_
  refine lo_callMi ⟨hx, hb, hml, hown, hts⟩ (c_X9_who l D cI cZ cG cL am hw) (cwV 2 hts (gk_gV ml_L_245 im_X9_who se_X9_who in_X9 co_X9_who) rfl rfl rfl (by decide +kernel) ⟨Nat.le_of_ble_eq_true rfl, Nat.le_of_ble_eq_true rfl⟩) (gk_recv hK.1 (mk_obj hW.2.1) rfl) hD hW hK hS rfl hl.1 (rest := []) rfl (lv_room (Nat.le_of_ble_eq_true rfl)) dL_law_2314 ⟨by omega, by omega⟩ (fun r6 μ6 H locs hw hW hS => ?_)
  obtain ⟨hth, ho, hI⟩ := hw
  refine lv_istore (lv' := [(6, .int r6), (5, .int r5), (0, .ref b), (1, .ref (ad 0)), (2, .ref (am 38)), (3, .ref oa), (4, .int x4)]) hx hb dL_law_2317 hl (by decide) rfl (fun ls hl => ?_)
  refine lv_aload_n hx hb dL_law_2319 rfl (lv_at hl 4 rfl) ?_
  refine lo_callMi ⟨hx, hb, hml, hown, hts⟩ (c_X9_thrown l D cI cZ cG cL am (Q := fun r => r = r5) hth) (cwV 0 hts (gk_gV ml_L_133 im_X9_thrown se_X9_thrown in_X9 co_X9_thrown) rfl rfl rfl (by decide +kernel) ⟨Nat.le_of_ble_eq_true rfl, Nat.le_of_ble_eq_true rfl⟩) (gk_recv hK.1 (mk_obj hW.2.1) rfl) hD hW hK hS rfl hl.1 (rest := []) rfl (lv_room (Nat.le_of_ble_eq_true rfl)) dL_law_2320 ⟨by omega, by omega⟩ (fun r7 μ7 H locs hw7 hW hS => ?_)
  rw [hw7.1] at hW
  have hw7 := hw7.2
  refine lv_iload hx hb dL_law_2323 (lv_at hl 1 rfl) ?_
  refine lv_icmp_eq (tgt := 2330) hx hb dL_law_2325 (by decide) (fun c2325 => ?_) (fun c2325 => ?_)
  · refine lv_iload hx hb dL_law_2330 (lv_at hl 1 rfl) ?_
    refine lv_if_ne (tgt := 2347) hx hb dL_law_2332 (by decide) (fun c2332 => ?_) (fun c2332 => ?_)
    · refine lv_goto (tgt := 2753) hx hb dL_law_2347 (by decide) ?_
      refine W.widen (k := k0 + 60) (n := n0 + 6000) (by omega) (by omega) ?_
      exact kN _ _ _ _ _ _ _ hI hW hS hd0 (lv_sub hl [2, 3, 4, 5, 6] rfl)
    · have ho := ho c2332
      refine lv_aload_n hx hb dL_law_2335 rfl (lv_at hl 5 rfl) ?_
      refine lv_iconst (v := 0) hx hb dL_law_2336 (by decide) ?_
      refine lo_lald hx hb hK hW.2.2 dL_law_2337 ?_
      refine lv_iload hx hb dL_law_2338 (lv_at hl 0 rfl) ?_
      refine lv_i2l (v := r6.toInt64) hx hb dL_law_2340 rfl ?_
      refine lo_lcmp hx hb (ho) dL_law_2341 ?_
      refine lv_if_eq (tgt := 2347) hx hb dL_law_2342 (by decide) (fun c2342 => ?_) (fun c2342 => ?_)
      · refine lv_goto (tgt := 2753) hx hb dL_law_2347 (by decide) ?_
        refine W.widen (k := k0 + 60) (n := n0 + 6000) (by omega) (by omega) ?_
        exact kN _ _ _ _ _ _ _ hI hW hS hd0 (lv_sub hl [2, 3, 4, 5, 6] rfl)
      · exact absurd rfl c2342
  · exact absurd hw7 c2325
set_option maxHeartbeats 4000000 in
set_option maxRecDepth 100000 in
theorem lo_case_33 {p : Program} {l : Launch} {e : Env} {s : State} {m : MethodId} {below : List Frame} {meth : Method} {c : Code} {D : va_G} {cI cZ cG cL : ClassId} {ad am : Nat → Nat} {q1 q2 q3 oa b L : Nat} {xs : Nat → Int32} (C0 : lo_C p s m meth c l D cI cZ cG cL ad am q1 q2 q3 oa b L xs) {cs : List Choice} (hnb : nanBits ∈ cs) {I : gk_C → gk_C → Prop} {Q : State → Prop} {x4 : Int32} {k0 n0 : Nat} (hcd : lo_cd L x4) (hk : k0 + 60 ≤ room_1.cells) (hn : n0 + 6000 ≤ room_1.slots) (kN : lo_Next cs I p l e room_1 s m below meth c D cI cZ cL ad am oa b Q x4 (k0 + 60) (n0 + 6000)) (hH : ∀ (σ μ : gk_C) (o : Int64), I σ μ → ∀ (a0 : Int32) (a1 : Int32), w_L_reach σ o a0 a1 (fun k σ1 o1 => w_X9_reach μ a0 a1 (fun r μ1 => μ1.2 0 = k ∧ (k = 0 → o1 = r.toInt64) ∧ I σ1 μ1))) {σ μ : gk_C} {o : Int64} {H : Heap} {locs : List Loc} {d0 : Drawn} {ls : Array Slot} (hI : I σ μ) (hW : lo_W D cI cZ cL ad am oa σ μ o H) (hS : va_S (lo_A s.heap.size) s.heap H locs) (hd0 : s.drawn.sameBut d0 cs) (hl : lv_has ls 9 [(0, .ref b), (1, .ref (ad 0)), (2, .ref (am 38)), (3, .ref oa), (4, .int x4)]) : W p l e room_1 (s.setDrawn d0) m #[Value.ref b] below meth c H locs k0 n0 Q (F0 m 2350 ls []) := by
  obtain ⟨hx, hb, hml, hown, hts0, hr, hlocks, hfl, hK0, hY0, hN0, hD, hX0, hbl⟩ := C0
  have hts := dr_words hts0 d0
  have hK := hK0.drawn d0
  have hY := hY0.drawn d0
  have hN : gk_NC (s.setDrawn d0) := hN0
  have hX : va_X b L xs (s.setDrawn d0) s.heap := hX0
  refine lv_aload_n hx hb dL_law_2350 rfl (lv_at hl 1 rfl) ?_
  refine lv_aload_n hx hb dL_law_2351 rfl (lv_at hl 0 rfl) ?_
  refine lv_iload hx hb dL_law_2352 (lv_at hl 4 rfl) ?_
  refine lv_iconst (v := 1) hx hb dL_law_2354 (by decide) ?_
  refine lv_iadd hx hb dL_law_2355 ?_
  refine lo_xald hx hb hX hbl hS (hcd 1 (by decide)) dL_law_2356 ?_
  refine lv_aload_n hx hb dL_law_2357 rfl (lv_at hl 0 rfl) ?_
  refine lv_iload hx hb dL_law_2358 (lv_at hl 4 rfl) ?_
  refine lv_iconst (v := 2) hx hb dL_law_2360 (by decide) ?_
  refine lv_iadd hx hb dL_law_2361 ?_
  refine lo_xald hx hb hX hbl hS (hcd 2 (by decide)) dL_law_2362 ?_
  refine lv_aload_n hx hb dL_law_2363 rfl (lv_at hl 3 rfl) ?_
  have hw := hH σ μ o hI ((xs (x4 + 1).toNatClampNeg)) ((xs (x4 + 2).toNatClampNeg))
  refine lo_callL ⟨hx, hb, hml, hown, hts⟩ (c_L_reach l hfl D cI cZ cG cL ad q1 q2 q3 oa hw) (vx_cwSW 4 hts (gk_gS ml_L_246 st_L_reach in_L co_L_reach) rfl rfl rfl (by decide +kernel) ⟨Nat.le_of_ble_eq_true rfl, Nat.le_of_ble_eq_true rfl⟩) hD hW hK hY hN hS rfl hl.1 (rest := []) rfl (lv_room (Nat.le_of_ble_eq_true rfl)) dL_law_2364 ⟨by omega, by omega⟩ (fun r5 σ5 o5 H locs hw hW hS => ?_)
  refine lv_istore (lv' := [(5, .int r5), (0, .ref b), (1, .ref (ad 0)), (2, .ref (am 38)), (3, .ref oa), (4, .int x4)]) hx hb dL_law_2367 hl (by decide) rfl (fun ls hl => ?_)
  refine lv_aload_n hx hb dL_law_2369 rfl (lv_at hl 3 rfl) ?_
  refine lv_aload_n hx hb dL_law_2370 rfl (lv_at hl 1 rfl) ?_
  refine lv_iload hx hb dL_law_2371 (lv_at hl 5 rfl) ?_
  refine lv_iconst (v := 1) hx hb dL_law_2373 (by decide) ?_
  refine lv_iadd hx hb dL_law_2374 ?_
  refine lo_xald hx hb hX hbl hS (hcd 1 (by decide)) dL_law_2375 ?_
  refine lv_aload_n hx hb dL_law_2376 rfl (lv_at hl 1 rfl) ?_
  refine lv_iload hx hb dL_law_2377 (lv_at hl 5 rfl) ?_
  refine lv_iconst (v := 2) hx hb dL_law_2379 (by decide) ?_
  refine lv_iadd hx hb dL_law_2380 ?_
  refine lo_xald hx hb hX hbl hS (hcd 2 (by decide)) dL_law_2381 ?_
  refine lo_callMi ⟨hx, hb, hml, hown, hts⟩ (c_X9_reach l D cI cZ cG cL am hw) (cwV 2 hts (gk_gV ml_L_248 im_X9_reach se_X9_reach in_X9 co_X9_reach) rfl rfl rfl (by decide +kernel) ⟨Nat.le_of_ble_eq_true rfl, Nat.le_of_ble_eq_true rfl⟩) (gk_recv hK.1 (mk_obj hW.2.1) rfl) hD hW hK hS rfl hl.1 (rest := []) rfl (lv_room (Nat.le_of_ble_eq_true rfl)) dL_law_2382 ⟨by omega, by omega⟩ (fun r6 μ6 H locs hw hW hS => ?_)
  obtain ⟨hth, ho, hI⟩ := hw
  refine lv_istore (lv' := [(6, .int r6), (5, .int r5), (0, .ref b), (1, .ref (ad 0)), (2, .ref (am 38)), (3, .ref oa), (4, .int x4)]) hx hb dL_law_2385 hl (by decide) rfl (fun ls hl => ?_)
  refine lv_aload_n hx hb dL_law_2387 rfl (lv_at hl 4 rfl) ?_
  refine lo_callMi ⟨hx, hb, hml, hown, hts⟩ (c_X9_thrown l D cI cZ cG cL am (Q := fun r => r = r5) hth) (cwV 0 hts (gk_gV ml_L_133 im_X9_thrown se_X9_thrown in_X9 co_X9_thrown) rfl rfl rfl (by decide +kernel) ⟨Nat.le_of_ble_eq_true rfl, Nat.le_of_ble_eq_true rfl⟩) (gk_recv hK.1 (mk_obj hW.2.1) rfl) hD hW hK hS rfl hl.1 (rest := []) rfl (lv_room (Nat.le_of_ble_eq_true rfl)) dL_law_2388 ⟨by omega, by omega⟩ (fun r7 μ7 H locs hw7 hW hS => ?_)
  rw [hw7.1] at hW
  have hw7 := hw7.2
  refine lv_iload hx hb dL_law_2391 (lv_at hl 1 rfl) ?_
  refine lv_icmp_eq (tgt := 2398) hx hb dL_law_2393 (by decide) (fun c2393 => ?_) (fun c2393 => ?_)
  · refine lv_iload hx hb dL_law_2398 (lv_at hl 1 rfl) ?_
    refine lv_if_ne (tgt := 2415) hx hb dL_law_2400 (by decide) (fun c2400 => ?_) (fun c2400 => ?_)
    · refine lv_goto (tgt := 2753) hx hb dL_law_2415 (by decide) ?_
      refine W.widen (k := k0 + 60) (n := n0 + 6000) (by omega) (by omega) ?_
      exact kN _ _ _ _ _ _ _ hI hW hS hd0 (lv_sub hl [2, 3, 4, 5, 6] rfl)
    · have ho := ho c2400
      refine lv_aload_n hx hb dL_law_2403 rfl (lv_at hl 5 rfl) ?_
      refine lv_iconst (v := 0) hx hb dL_law_2404 (by decide) ?_
      refine lo_lald hx hb hK hW.2.2 dL_law_2405 ?_
      refine lv_iload hx hb dL_law_2406 (lv_at hl 0 rfl) ?_
      refine lv_i2l (v := r6.toInt64) hx hb dL_law_2408 rfl ?_
      refine lo_lcmp hx hb (ho) dL_law_2409 ?_
      refine lv_if_eq (tgt := 2415) hx hb dL_law_2410 (by decide) (fun c2410 => ?_) (fun c2410 => ?_)
      · refine lv_goto (tgt := 2753) hx hb dL_law_2415 (by decide) ?_
        refine W.widen (k := k0 + 60) (n := n0 + 6000) (by omega) (by omega) ?_
        exact kN _ _ _ _ _ _ _ hI hW hS hd0 (lv_sub hl [2, 3, 4, 5, 6] rfl)
      · exact absurd rfl c2410
  · exact absurd hw7 c2393
set_option maxHeartbeats 4000000 in
set_option maxRecDepth 100000 in
theorem lo_case_34 {p : Program} {l : Launch} {e : Env} {s : State} {m : MethodId} {below : List Frame} {meth : Method} {c : Code} {D : va_G} {cI cZ cG cL : ClassId} {ad am : Nat → Nat} {q1 q2 q3 oa b L : Nat} {xs : Nat → Int32} (C0 : lo_C p s m meth c l D cI cZ cG cL ad am q1 q2 q3 oa b L xs) {cs : List Choice} (hnb : nanBits ∈ cs) {I : gk_C → gk_C → Prop} {Q : State → Prop} {x4 : Int32} {k0 n0 : Nat} (hcd : lo_cd L x4) (hk : k0 + 60 ≤ room_1.cells) (hn : n0 + 6000 ≤ room_1.slots) (kN : lo_Next cs I p l e room_1 s m below meth c D cI cZ cL ad am oa b Q x4 (k0 + 60) (n0 + 6000)) (hH : ∀ (σ μ : gk_C) (o : Int64), I σ μ → ∀ (a0 : Int32) (a1 : Int32) (a2 : Int32), w_L_rolesNeeded σ o a0 a1 a2 (fun k σ1 o1 => w_X9_rolesNeeded μ a0 a1 a2 (fun r μ1 => μ1.2 0 = k ∧ (k = 0 → o1 = r.toInt64) ∧ I σ1 μ1))) {σ μ : gk_C} {o : Int64} {H : Heap} {locs : List Loc} {d0 : Drawn} {ls : Array Slot} (hI : I σ μ) (hW : lo_W D cI cZ cL ad am oa σ μ o H) (hS : va_S (lo_A s.heap.size) s.heap H locs) (hd0 : s.drawn.sameBut d0 cs) (hl : lv_has ls 9 [(0, .ref b), (1, .ref (ad 0)), (2, .ref (am 38)), (3, .ref oa), (4, .int x4)]) : W p l e room_1 (s.setDrawn d0) m #[Value.ref b] below meth c H locs k0 n0 Q (F0 m 2418 ls []) := by
  obtain ⟨hx, hb, hml, hown, hts0, hr, hlocks, hfl, hK0, hY0, hN0, hD, hX0, hbl⟩ := C0
  have hts := dr_words hts0 d0
  have hK := hK0.drawn d0
  have hY := hY0.drawn d0
  have hN : gk_NC (s.setDrawn d0) := hN0
  have hX : va_X b L xs (s.setDrawn d0) s.heap := hX0
  refine lv_aload_n hx hb dL_law_2418 rfl (lv_at hl 1 rfl) ?_
  refine lv_aload_n hx hb dL_law_2419 rfl (lv_at hl 0 rfl) ?_
  refine lv_iload hx hb dL_law_2420 (lv_at hl 4 rfl) ?_
  refine lv_iconst (v := 1) hx hb dL_law_2422 (by decide) ?_
  refine lv_iadd hx hb dL_law_2423 ?_
  refine lo_xald hx hb hX hbl hS (hcd 1 (by decide)) dL_law_2424 ?_
  refine lv_aload_n hx hb dL_law_2425 rfl (lv_at hl 0 rfl) ?_
  refine lv_iload hx hb dL_law_2426 (lv_at hl 4 rfl) ?_
  refine lv_iconst (v := 2) hx hb dL_law_2428 (by decide) ?_
  refine lv_iadd hx hb dL_law_2429 ?_
  refine lo_xald hx hb hX hbl hS (hcd 2 (by decide)) dL_law_2430 ?_
  refine lv_aload_n hx hb dL_law_2431 rfl (lv_at hl 0 rfl) ?_
  refine lv_iload hx hb dL_law_2432 (lv_at hl 4 rfl) ?_
  refine lv_iconst (v := 3) hx hb dL_law_2434 (by decide) ?_
  refine lv_iadd hx hb dL_law_2435 ?_
  refine lo_xald hx hb hX hbl hS (hcd 3 (by decide)) dL_law_2436 ?_
  refine lv_aload_n hx hb dL_law_2437 rfl (lv_at hl 3 rfl) ?_
  have hw := hH σ μ o hI ((xs (x4 + 1).toNatClampNeg)) ((xs (x4 + 2).toNatClampNeg)) ((xs (x4 + 3).toNatClampNeg))
  refine lo_callL ⟨hx, hb, hml, hown, hts⟩ (c_L_rolesNeeded l hfl D cI cZ cG cL ad q1 q2 q3 oa hw) (vx_cwSW 5 hts (gk_gS ml_L_249 st_L_rolesNeeded in_L co_L_rolesNeeded) rfl rfl rfl (by decide +kernel) ⟨Nat.le_of_ble_eq_true rfl, Nat.le_of_ble_eq_true rfl⟩) hD hW hK hY hN hS rfl hl.1 (rest := []) rfl (lv_room (Nat.le_of_ble_eq_true rfl)) dL_law_2438 ⟨by omega, by omega⟩ (fun r5 σ5 o5 H locs hw hW hS => ?_)
  refine lv_istore (lv' := [(5, .int r5), (0, .ref b), (1, .ref (ad 0)), (2, .ref (am 38)), (3, .ref oa), (4, .int x4)]) hx hb dL_law_2441 hl (by decide) rfl (fun ls hl => ?_)
  refine lv_aload_n hx hb dL_law_2443 rfl (lv_at hl 3 rfl) ?_
  refine lv_aload_n hx hb dL_law_2444 rfl (lv_at hl 1 rfl) ?_
  refine lv_iload hx hb dL_law_2445 (lv_at hl 5 rfl) ?_
  refine lv_iconst (v := 1) hx hb dL_law_2447 (by decide) ?_
  refine lv_iadd hx hb dL_law_2448 ?_
  refine lo_xald hx hb hX hbl hS (hcd 1 (by decide)) dL_law_2449 ?_
  refine lv_aload_n hx hb dL_law_2450 rfl (lv_at hl 1 rfl) ?_
  refine lv_iload hx hb dL_law_2451 (lv_at hl 5 rfl) ?_
  refine lv_iconst (v := 2) hx hb dL_law_2453 (by decide) ?_
  refine lv_iadd hx hb dL_law_2454 ?_
  refine lo_xald hx hb hX hbl hS (hcd 2 (by decide)) dL_law_2455 ?_
  refine lv_aload_n hx hb dL_law_2456 rfl (lv_at hl 1 rfl) ?_
  refine lv_iload hx hb dL_law_2457 (lv_at hl 5 rfl) ?_
  refine lv_iconst (v := 3) hx hb dL_law_2459 (by decide) ?_
  refine lv_iadd hx hb dL_law_2460 ?_
  refine lo_xald hx hb hX hbl hS (hcd 3 (by decide)) dL_law_2461 ?_
  refine lo_callMi ⟨hx, hb, hml, hown, hts⟩ (c_X9_rolesNeeded l D cI cZ cG cL am hw) (cwV 3 hts (gk_gV ml_L_251 im_X9_rolesNeeded se_X9_rolesNeeded in_X9 co_X9_rolesNeeded) rfl rfl rfl (by decide +kernel) ⟨Nat.le_of_ble_eq_true rfl, Nat.le_of_ble_eq_true rfl⟩) (gk_recv hK.1 (mk_obj hW.2.1) rfl) hD hW hK hS rfl hl.1 (rest := []) rfl (lv_room (Nat.le_of_ble_eq_true rfl)) dL_law_2462 ⟨by omega, by omega⟩ (fun r6 μ6 H locs hw hW hS => ?_)
  obtain ⟨hth, ho, hI⟩ := hw
  refine lv_istore (lv' := [(6, .int r6), (5, .int r5), (0, .ref b), (1, .ref (ad 0)), (2, .ref (am 38)), (3, .ref oa), (4, .int x4)]) hx hb dL_law_2465 hl (by decide) rfl (fun ls hl => ?_)
  refine lv_aload_n hx hb dL_law_2467 rfl (lv_at hl 4 rfl) ?_
  refine lo_callMi ⟨hx, hb, hml, hown, hts⟩ (c_X9_thrown l D cI cZ cG cL am (Q := fun r => r = r5) hth) (cwV 0 hts (gk_gV ml_L_133 im_X9_thrown se_X9_thrown in_X9 co_X9_thrown) rfl rfl rfl (by decide +kernel) ⟨Nat.le_of_ble_eq_true rfl, Nat.le_of_ble_eq_true rfl⟩) (gk_recv hK.1 (mk_obj hW.2.1) rfl) hD hW hK hS rfl hl.1 (rest := []) rfl (lv_room (Nat.le_of_ble_eq_true rfl)) dL_law_2468 ⟨by omega, by omega⟩ (fun r7 μ7 H locs hw7 hW hS => ?_)
  rw [hw7.1] at hW
  have hw7 := hw7.2
  refine lv_iload hx hb dL_law_2471 (lv_at hl 1 rfl) ?_
  refine lv_icmp_eq (tgt := 2478) hx hb dL_law_2473 (by decide) (fun c2473 => ?_) (fun c2473 => ?_)
  · refine lv_iload hx hb dL_law_2478 (lv_at hl 1 rfl) ?_
    refine lv_if_ne (tgt := 2495) hx hb dL_law_2480 (by decide) (fun c2480 => ?_) (fun c2480 => ?_)
    · refine lv_goto (tgt := 2753) hx hb dL_law_2495 (by decide) ?_
      refine W.widen (k := k0 + 60) (n := n0 + 6000) (by omega) (by omega) ?_
      exact kN _ _ _ _ _ _ _ hI hW hS hd0 (lv_sub hl [2, 3, 4, 5, 6] rfl)
    · have ho := ho c2480
      refine lv_aload_n hx hb dL_law_2483 rfl (lv_at hl 5 rfl) ?_
      refine lv_iconst (v := 0) hx hb dL_law_2484 (by decide) ?_
      refine lo_lald hx hb hK hW.2.2 dL_law_2485 ?_
      refine lv_iload hx hb dL_law_2486 (lv_at hl 0 rfl) ?_
      refine lv_i2l (v := r6.toInt64) hx hb dL_law_2488 rfl ?_
      refine lo_lcmp hx hb (ho) dL_law_2489 ?_
      refine lv_if_eq (tgt := 2495) hx hb dL_law_2490 (by decide) (fun c2490 => ?_) (fun c2490 => ?_)
      · refine lv_goto (tgt := 2753) hx hb dL_law_2495 (by decide) ?_
        refine W.widen (k := k0 + 60) (n := n0 + 6000) (by omega) (by omega) ?_
        exact kN _ _ _ _ _ _ _ hI hW hS hd0 (lv_sub hl [2, 3, 4, 5, 6] rfl)
      · exact absurd rfl c2490
  · exact absurd hw7 c2473
set_option maxHeartbeats 4000000 in
set_option maxRecDepth 100000 in
theorem lo_case_35 {p : Program} {l : Launch} {e : Env} {s : State} {m : MethodId} {below : List Frame} {meth : Method} {c : Code} {D : va_G} {cI cZ cG cL : ClassId} {ad am : Nat → Nat} {q1 q2 q3 oa b L : Nat} {xs : Nat → Int32} (C0 : lo_C p s m meth c l D cI cZ cG cL ad am q1 q2 q3 oa b L xs) {cs : List Choice} (hnb : nanBits ∈ cs) {I : gk_C → gk_C → Prop} {Q : State → Prop} {x4 : Int32} {k0 n0 : Nat} (hcd : lo_cd L x4) (hk : k0 + 60 ≤ room_1.cells) (hn : n0 + 6000 ≤ room_1.slots) (kN : lo_Next cs I p l e room_1 s m below meth c D cI cZ cL ad am oa b Q x4 (k0 + 60) (n0 + 6000)) (hH : ∀ (σ μ : gk_C), I σ μ → w_X8_contradictions σ (fun r σ1 => w_X9_contradictions μ (fun r1 μ1 => r = r1 ∧ I σ1 μ1))) {σ μ : gk_C} {o : Int64} {H : Heap} {locs : List Loc} {d0 : Drawn} {ls : Array Slot} (hI : I σ μ) (hW : lo_W D cI cZ cL ad am oa σ μ o H) (hS : va_S (lo_A s.heap.size) s.heap H locs) (hd0 : s.drawn.sameBut d0 cs) (hl : lv_has ls 9 [(0, .ref b), (1, .ref (ad 0)), (2, .ref (am 38)), (3, .ref oa), (4, .int x4)]) : W p l e room_1 (s.setDrawn d0) m #[Value.ref b] below meth c H locs k0 n0 Q (F0 m 2498 ls []) := by
  obtain ⟨hx, hb, hml, hown, hts0, hr, hlocks, hfl, hK0, hY0, hN0, hD, hX0, hbl⟩ := C0
  have hts := dr_words hts0 d0
  have hK := hK0.drawn d0
  have hY := hY0.drawn d0
  have hN : gk_NC (s.setDrawn d0) := hN0
  have hX : va_X b L xs (s.setDrawn d0) s.heap := hX0
  refine lv_aload_n hx hb dL_law_2498 rfl (lv_at hl 1 rfl) ?_
  have hw := hH σ μ hI
  refine lo_callGi ⟨hx, hb, hml, hown, hts⟩ (c_X8_contradictions l D cI cZ cG cL ad hw) (cwV 0 hts (gk_gV ml_L_252 im_X8_contradictions se_X8_contradictions in_X8 co_X8_contradictions) rfl rfl rfl (by decide +kernel) ⟨Nat.le_of_ble_eq_true rfl, Nat.le_of_ble_eq_true rfl⟩) (gk_recv hK.1 (gk_o0 hW.1) rfl) hD hW hK hS rfl hl.1 (rest := []) rfl (lv_room (Nat.le_of_ble_eq_true rfl)) dL_law_2499 ⟨by omega, by omega⟩ (fun r5 σ5 H locs hw hW hS => ?_)
  refine lv_aload_n hx hb dL_law_2502 rfl (lv_at hl 2 rfl) ?_
  refine lo_callMi ⟨hx, hb, hml, hown, hts⟩ (c_X9_contradictions l D cI cZ cG cL am hw) (cwV 0 hts (gk_gV ml_L_255 im_X9_contradictions se_X9_contradictions in_X9 co_X9_contradictions) rfl rfl rfl (by decide +kernel) ⟨Nat.le_of_ble_eq_true rfl, Nat.le_of_ble_eq_true rfl⟩) (gk_recv hK.1 (mk_obj hW.2.1) rfl) hD hW hK hS rfl hl.1 (rest := [.int r5]) rfl (lv_room (Nat.le_of_ble_eq_true rfl)) dL_law_2503 ⟨by omega, by omega⟩ (fun r6 μ6 H locs hw hW hS => ?_)
  obtain ⟨he, hI⟩ := hw
  refine lv_icmp_eq (tgt := 2753) hx hb dL_law_2506 (by decide) (fun c2506 => ?_) (fun c2506 => ?_)
  · refine W.widen (k := k0 + 60) (n := n0 + 6000) (by omega) (by omega) ?_
    exact kN _ _ _ _ _ _ _ hI hW hS hd0 (lv_sub hl [0, 1, 2, 3, 4] rfl)
  · exact absurd he c2506
set_option maxHeartbeats 4000000 in
set_option maxRecDepth 100000 in
theorem lo_case_36 {p : Program} {l : Launch} {e : Env} {s : State} {m : MethodId} {below : List Frame} {meth : Method} {c : Code} {D : va_G} {cI cZ cG cL : ClassId} {ad am : Nat → Nat} {q1 q2 q3 oa b L : Nat} {xs : Nat → Int32} (C0 : lo_C p s m meth c l D cI cZ cG cL ad am q1 q2 q3 oa b L xs) {cs : List Choice} (hnb : nanBits ∈ cs) {I : gk_C → gk_C → Prop} {Q : State → Prop} {x4 : Int32} {k0 n0 : Nat} (hcd : lo_cd L x4) (hk : k0 + 60 ≤ room_1.cells) (hn : n0 + 6000 ≤ room_1.slots) (kN : lo_Next cs I p l e room_1 s m below meth c D cI cZ cL ad am oa b Q x4 (k0 + 60) (n0 + 6000)) (hH : ∀ (σ μ : gk_C) (o : Int64), I σ μ → ∀ (a0 : Int32), w_L_isIdle σ o a0 (fun k σ1 o1 => w_X9_isIdle μ a0 (fun r μ1 => μ1.2 0 = k ∧ (k = 0 → (¬ r = 0 → o1 = 1) ∧ (r = 0 → o1 = 0)) ∧ I σ1 μ1))) {σ μ : gk_C} {o : Int64} {H : Heap} {locs : List Loc} {d0 : Drawn} {ls : Array Slot} (hI : I σ μ) (hW : lo_W D cI cZ cL ad am oa σ μ o H) (hS : va_S (lo_A s.heap.size) s.heap H locs) (hd0 : s.drawn.sameBut d0 cs) (hl : lv_has ls 9 [(0, .ref b), (1, .ref (ad 0)), (2, .ref (am 38)), (3, .ref oa), (4, .int x4)]) : W p l e room_1 (s.setDrawn d0) m #[Value.ref b] below meth c H locs k0 n0 Q (F0 m 2511 ls []) := by
  obtain ⟨hx, hb, hml, hown, hts0, hr, hlocks, hfl, hK0, hY0, hN0, hD, hX0, hbl⟩ := C0
  have hts := dr_words hts0 d0
  have hK := hK0.drawn d0
  have hY := hY0.drawn d0
  have hN : gk_NC (s.setDrawn d0) := hN0
  have hX : va_X b L xs (s.setDrawn d0) s.heap := hX0
  refine lv_aload_n hx hb dL_law_2511 rfl (lv_at hl 1 rfl) ?_
  refine lv_aload_n hx hb dL_law_2512 rfl (lv_at hl 0 rfl) ?_
  refine lv_iload hx hb dL_law_2513 (lv_at hl 4 rfl) ?_
  refine lv_iconst (v := 1) hx hb dL_law_2515 (by decide) ?_
  refine lv_iadd hx hb dL_law_2516 ?_
  refine lo_xald hx hb hX hbl hS (hcd 1 (by decide)) dL_law_2517 ?_
  refine lv_aload_n hx hb dL_law_2518 rfl (lv_at hl 3 rfl) ?_
  have hw := hH σ μ o hI ((xs (x4 + 1).toNatClampNeg))
  refine lo_callL ⟨hx, hb, hml, hown, hts⟩ (c_L_isIdle l hfl D cI cZ cG cL ad q1 q2 q3 oa hw) (vx_cwSW 3 hts (gk_gS ml_L_256 st_L_isIdle in_L co_L_isIdle) rfl rfl rfl (by decide +kernel) ⟨Nat.le_of_ble_eq_true rfl, Nat.le_of_ble_eq_true rfl⟩) hD hW hK hY hN hS rfl hl.1 (rest := []) rfl (lv_room (Nat.le_of_ble_eq_true rfl)) dL_law_2519 ⟨by omega, by omega⟩ (fun r5 σ5 o5 H locs hw hW hS => ?_)
  refine lv_istore (lv' := [(5, .int r5), (0, .ref b), (1, .ref (ad 0)), (2, .ref (am 38)), (3, .ref oa), (4, .int x4)]) hx hb dL_law_2522 hl (by decide) rfl (fun ls hl => ?_)
  refine lv_aload_n hx hb dL_law_2524 rfl (lv_at hl 3 rfl) ?_
  refine lv_aload_n hx hb dL_law_2525 rfl (lv_at hl 1 rfl) ?_
  refine lv_iload hx hb dL_law_2526 (lv_at hl 5 rfl) ?_
  refine lv_iconst (v := 1) hx hb dL_law_2528 (by decide) ?_
  refine lv_iadd hx hb dL_law_2529 ?_
  refine lo_xald hx hb hX hbl hS (hcd 1 (by decide)) dL_law_2530 ?_
  refine lo_callMi ⟨hx, hb, hml, hown, hts⟩ (c_X9_isIdle l D cI cZ cG cL am hw) (cwV 1 hts (gk_gV ml_L_258 im_X9_isIdle se_X9_isIdle in_X9 co_X9_isIdle) rfl rfl rfl (by decide +kernel) ⟨Nat.le_of_ble_eq_true rfl, Nat.le_of_ble_eq_true rfl⟩) (gk_recv hK.1 (mk_obj hW.2.1) rfl) hD hW hK hS rfl hl.1 (rest := []) rfl (lv_room (Nat.le_of_ble_eq_true rfl)) dL_law_2531 ⟨by omega, by omega⟩ (fun r6 μ6 H locs hw hW hS => ?_)
  obtain ⟨hth, ho, hI⟩ := hw
  refine lv_istore (lv' := [(6, .int r6), (5, .int r5), (0, .ref b), (1, .ref (ad 0)), (2, .ref (am 38)), (3, .ref oa), (4, .int x4)]) hx hb dL_law_2534 hl (by decide) rfl (fun ls hl => ?_)
  refine lv_aload_n hx hb dL_law_2536 rfl (lv_at hl 4 rfl) ?_
  refine lo_callMi ⟨hx, hb, hml, hown, hts⟩ (c_X9_thrown l D cI cZ cG cL am (Q := fun r => r = r5) hth) (cwV 0 hts (gk_gV ml_L_133 im_X9_thrown se_X9_thrown in_X9 co_X9_thrown) rfl rfl rfl (by decide +kernel) ⟨Nat.le_of_ble_eq_true rfl, Nat.le_of_ble_eq_true rfl⟩) (gk_recv hK.1 (mk_obj hW.2.1) rfl) hD hW hK hS rfl hl.1 (rest := []) rfl (lv_room (Nat.le_of_ble_eq_true rfl)) dL_law_2537 ⟨by omega, by omega⟩ (fun r7 μ7 H locs hw7 hW hS => ?_)
  rw [hw7.1] at hW
  have hw7 := hw7.2
  refine lv_iload hx hb dL_law_2540 (lv_at hl 1 rfl) ?_
  refine lv_icmp_eq (tgt := 2547) hx hb dL_law_2542 (by decide) (fun c2542 => ?_) (fun c2542 => ?_)
  · refine lv_iload hx hb dL_law_2547 (lv_at hl 1 rfl) ?_
    refine lv_if_ne (tgt := 2571) hx hb dL_law_2549 (by decide) (fun c2549 => ?_) (fun c2549 => ?_)
    · refine lv_goto (tgt := 2753) hx hb dL_law_2571 (by decide) ?_
      refine W.widen (k := k0 + 60) (n := n0 + 6000) (by omega) (by omega) ?_
      exact kN _ _ _ _ _ _ _ hI hW hS hd0 (lv_sub hl [2, 3, 4, 5, 6] rfl)
    · have ho := ho c2549
      refine lv_aload_n hx hb dL_law_2552 rfl (lv_at hl 5 rfl) ?_
      refine lv_iconst (v := 0) hx hb dL_law_2553 (by decide) ?_
      refine lo_lald hx hb hK hW.2.2 dL_law_2554 ?_
      refine lv_iload hx hb dL_law_2555 (lv_at hl 0 rfl) ?_
      refine lv_if_eq (tgt := 2564) hx hb dL_law_2557 (by decide) (fun c2557 => ?_) (fun c2557 => ?_)
      · refine lv_lconst (v := 0) hx hb dL_law_2564 (by decide) ?_
        refine lo_lcmp hx hb (ho.2 c2557) dL_law_2565 ?_
        refine lv_if_eq (tgt := 2571) hx hb dL_law_2566 (by decide) (fun c2566 => ?_) (fun c2566 => ?_)
        · refine lv_goto (tgt := 2753) hx hb dL_law_2571 (by decide) ?_
          refine W.widen (k := k0 + 60) (n := n0 + 6000) (by omega) (by omega) ?_
          exact kN _ _ _ _ _ _ _ hI hW hS hd0 (lv_sub hl [2, 3, 4, 5, 6] rfl)
        · exact absurd rfl c2566
      · refine lv_lconst (v := 1) hx hb dL_law_2560 (by decide) ?_
        refine lv_goto (tgt := 2565) hx hb dL_law_2561 (by decide) ?_
        refine lo_lcmp hx hb (ho.1 c2557) dL_law_2565 ?_
        refine lv_if_eq (tgt := 2571) hx hb dL_law_2566 (by decide) (fun c2566 => ?_) (fun c2566 => ?_)
        · refine lv_goto (tgt := 2753) hx hb dL_law_2571 (by decide) ?_
          refine W.widen (k := k0 + 60) (n := n0 + 6000) (by omega) (by omega) ?_
          exact kN _ _ _ _ _ _ _ hI hW hS hd0 (lv_sub hl [2, 3, 4, 5, 6] rfl)
        · exact absurd rfl c2566
  · exact absurd hw7 c2542
set_option maxHeartbeats 4000000 in
set_option maxRecDepth 100000 in
theorem lo_case_37 {p : Program} {l : Launch} {e : Env} {s : State} {m : MethodId} {below : List Frame} {meth : Method} {c : Code} {D : va_G} {cI cZ cG cL : ClassId} {ad am : Nat → Nat} {q1 q2 q3 oa b L : Nat} {xs : Nat → Int32} (C0 : lo_C p s m meth c l D cI cZ cG cL ad am q1 q2 q3 oa b L xs) {cs : List Choice} (hnb : nanBits ∈ cs) {I : gk_C → gk_C → Prop} {Q : State → Prop} {x4 : Int32} {k0 n0 : Nat} (hcd : lo_cd L x4) (hk : k0 + 60 ≤ room_1.cells) (hn : n0 + 6000 ≤ room_1.slots) (kN : lo_Next cs I p l e room_1 s m below meth c D cI cZ cL ad am oa b Q x4 (k0 + 60) (n0 + 6000)) (hH : ∀ (σ μ : gk_C) (o : Int64), I σ μ → ∀ (a0 : Int32), w_L_wouldDiffer σ o a0 (fun k σ1 o1 => w_X9_wouldDiffer μ a0 (fun r μ1 => μ1.2 0 = k ∧ (k = 0 → o1 = r.toInt64) ∧ I σ1 μ1))) {σ μ : gk_C} {o : Int64} {H : Heap} {locs : List Loc} {d0 : Drawn} {ls : Array Slot} (hI : I σ μ) (hW : lo_W D cI cZ cL ad am oa σ μ o H) (hS : va_S (lo_A s.heap.size) s.heap H locs) (hd0 : s.drawn.sameBut d0 cs) (hl : lv_has ls 9 [(0, .ref b), (1, .ref (ad 0)), (2, .ref (am 38)), (3, .ref oa), (4, .int x4)]) : W p l e room_1 (s.setDrawn d0) m #[Value.ref b] below meth c H locs k0 n0 Q (F0 m 2574 ls []) := by
  obtain ⟨hx, hb, hml, hown, hts0, hr, hlocks, hfl, hK0, hY0, hN0, hD, hX0, hbl⟩ := C0
  have hts := dr_words hts0 d0
  have hK := hK0.drawn d0
  have hY := hY0.drawn d0
  have hN : gk_NC (s.setDrawn d0) := hN0
  have hX : va_X b L xs (s.setDrawn d0) s.heap := hX0
  refine lv_aload_n hx hb dL_law_2574 rfl (lv_at hl 1 rfl) ?_
  refine lv_aload_n hx hb dL_law_2575 rfl (lv_at hl 0 rfl) ?_
  refine lv_iload hx hb dL_law_2576 (lv_at hl 4 rfl) ?_
  refine lv_iconst (v := 1) hx hb dL_law_2578 (by decide) ?_
  refine lv_iadd hx hb dL_law_2579 ?_
  refine lo_xald hx hb hX hbl hS (hcd 1 (by decide)) dL_law_2580 ?_
  refine lv_aload_n hx hb dL_law_2581 rfl (lv_at hl 3 rfl) ?_
  have hw := hH σ μ o hI ((xs (x4 + 1).toNatClampNeg))
  refine lo_callL ⟨hx, hb, hml, hown, hts⟩ (c_L_wouldDiffer l hfl D cI cZ cG cL ad q1 q2 q3 oa hw) (vx_cwSW 3 hts (gk_gS ml_L_259 st_L_wouldDiffer in_L co_L_wouldDiffer) rfl rfl rfl (by decide +kernel) ⟨Nat.le_of_ble_eq_true rfl, Nat.le_of_ble_eq_true rfl⟩) hD hW hK hY hN hS rfl hl.1 (rest := []) rfl (lv_room (Nat.le_of_ble_eq_true rfl)) dL_law_2582 ⟨by omega, by omega⟩ (fun r5 σ5 o5 H locs hw hW hS => ?_)
  refine lv_istore (lv' := [(5, .int r5), (0, .ref b), (1, .ref (ad 0)), (2, .ref (am 38)), (3, .ref oa), (4, .int x4)]) hx hb dL_law_2585 hl (by decide) rfl (fun ls hl => ?_)
  refine lv_aload_n hx hb dL_law_2587 rfl (lv_at hl 3 rfl) ?_
  refine lv_aload_n hx hb dL_law_2588 rfl (lv_at hl 1 rfl) ?_
  refine lv_iload hx hb dL_law_2589 (lv_at hl 5 rfl) ?_
  refine lv_iconst (v := 1) hx hb dL_law_2591 (by decide) ?_
  refine lv_iadd hx hb dL_law_2592 ?_
  refine lo_xald hx hb hX hbl hS (hcd 1 (by decide)) dL_law_2593 ?_
  refine lo_callMi ⟨hx, hb, hml, hown, hts⟩ (c_X9_wouldDiffer l D cI cZ cG cL am hw) (cwV 1 hts (gk_gV ml_L_261 im_X9_wouldDiffer se_X9_wouldDiffer in_X9 co_X9_wouldDiffer) rfl rfl rfl (by decide +kernel) ⟨Nat.le_of_ble_eq_true rfl, Nat.le_of_ble_eq_true rfl⟩) (gk_recv hK.1 (mk_obj hW.2.1) rfl) hD hW hK hS rfl hl.1 (rest := []) rfl (lv_room (Nat.le_of_ble_eq_true rfl)) dL_law_2594 ⟨by omega, by omega⟩ (fun r6 μ6 H locs hw hW hS => ?_)
  obtain ⟨hth, ho, hI⟩ := hw
  refine lv_istore (lv' := [(6, .int r6), (5, .int r5), (0, .ref b), (1, .ref (ad 0)), (2, .ref (am 38)), (3, .ref oa), (4, .int x4)]) hx hb dL_law_2597 hl (by decide) rfl (fun ls hl => ?_)
  refine lv_aload_n hx hb dL_law_2599 rfl (lv_at hl 4 rfl) ?_
  refine lo_callMi ⟨hx, hb, hml, hown, hts⟩ (c_X9_thrown l D cI cZ cG cL am (Q := fun r => r = r5) hth) (cwV 0 hts (gk_gV ml_L_133 im_X9_thrown se_X9_thrown in_X9 co_X9_thrown) rfl rfl rfl (by decide +kernel) ⟨Nat.le_of_ble_eq_true rfl, Nat.le_of_ble_eq_true rfl⟩) (gk_recv hK.1 (mk_obj hW.2.1) rfl) hD hW hK hS rfl hl.1 (rest := []) rfl (lv_room (Nat.le_of_ble_eq_true rfl)) dL_law_2600 ⟨by omega, by omega⟩ (fun r7 μ7 H locs hw7 hW hS => ?_)
  rw [hw7.1] at hW
  have hw7 := hw7.2
  refine lv_iload hx hb dL_law_2603 (lv_at hl 1 rfl) ?_
  refine lv_icmp_eq (tgt := 2610) hx hb dL_law_2605 (by decide) (fun c2605 => ?_) (fun c2605 => ?_)
  · refine lv_iload hx hb dL_law_2610 (lv_at hl 1 rfl) ?_
    refine lv_if_ne (tgt := 2627) hx hb dL_law_2612 (by decide) (fun c2612 => ?_) (fun c2612 => ?_)
    · refine lv_goto (tgt := 2753) hx hb dL_law_2627 (by decide) ?_
      refine W.widen (k := k0 + 60) (n := n0 + 6000) (by omega) (by omega) ?_
      exact kN _ _ _ _ _ _ _ hI hW hS hd0 (lv_sub hl [2, 3, 4, 5, 6] rfl)
    · have ho := ho c2612
      refine lv_aload_n hx hb dL_law_2615 rfl (lv_at hl 5 rfl) ?_
      refine lv_iconst (v := 0) hx hb dL_law_2616 (by decide) ?_
      refine lo_lald hx hb hK hW.2.2 dL_law_2617 ?_
      refine lv_iload hx hb dL_law_2618 (lv_at hl 0 rfl) ?_
      refine lv_i2l (v := r6.toInt64) hx hb dL_law_2620 rfl ?_
      refine lo_lcmp hx hb (ho) dL_law_2621 ?_
      refine lv_if_eq (tgt := 2627) hx hb dL_law_2622 (by decide) (fun c2622 => ?_) (fun c2622 => ?_)
      · refine lv_goto (tgt := 2753) hx hb dL_law_2627 (by decide) ?_
        refine W.widen (k := k0 + 60) (n := n0 + 6000) (by omega) (by omega) ?_
        exact kN _ _ _ _ _ _ _ hI hW hS hd0 (lv_sub hl [2, 3, 4, 5, 6] rfl)
      · exact absurd rfl c2622
  · exact absurd hw7 c2605
set_option maxHeartbeats 4000000 in
set_option maxRecDepth 100000 in
theorem lo_case_38 {p : Program} {l : Launch} {e : Env} {s : State} {m : MethodId} {below : List Frame} {meth : Method} {c : Code} {D : va_G} {cI cZ cG cL : ClassId} {ad am : Nat → Nat} {q1 q2 q3 oa b L : Nat} {xs : Nat → Int32} (C0 : lo_C p s m meth c l D cI cZ cG cL ad am q1 q2 q3 oa b L xs) {cs : List Choice} (hnb : nanBits ∈ cs) {I : gk_C → gk_C → Prop} {Q : State → Prop} {x4 : Int32} {k0 n0 : Nat} (hcd : lo_cd L x4) (hk : k0 + 60 ≤ room_1.cells) (hn : n0 + 6000 ≤ room_1.slots) (kN : lo_Next cs I p l e room_1 s m below meth c D cI cZ cL ad am oa b Q x4 (k0 + 60) (n0 + 6000)) (hH : ∀ (σ μ : gk_C) (o : Int64), I σ μ → ∀ (a0 : Int32) (a1 : Int32), w_L_wouldGain σ o a0 a1 (fun k σ1 o1 => w_X9_wouldGain μ a0 a1 (fun r μ1 => μ1.2 0 = k ∧ (k = 0 → o1 = r.toInt64) ∧ I σ1 μ1))) {σ μ : gk_C} {o : Int64} {H : Heap} {locs : List Loc} {d0 : Drawn} {ls : Array Slot} (hI : I σ μ) (hW : lo_W D cI cZ cL ad am oa σ μ o H) (hS : va_S (lo_A s.heap.size) s.heap H locs) (hd0 : s.drawn.sameBut d0 cs) (hl : lv_has ls 9 [(0, .ref b), (1, .ref (ad 0)), (2, .ref (am 38)), (3, .ref oa), (4, .int x4)]) : W p l e room_1 (s.setDrawn d0) m #[Value.ref b] below meth c H locs k0 n0 Q (F0 m 2630 ls []) := by
  obtain ⟨hx, hb, hml, hown, hts0, hr, hlocks, hfl, hK0, hY0, hN0, hD, hX0, hbl⟩ := C0
  have hts := dr_words hts0 d0
  have hK := hK0.drawn d0
  have hY := hY0.drawn d0
  have hN : gk_NC (s.setDrawn d0) := hN0
  have hX : va_X b L xs (s.setDrawn d0) s.heap := hX0
  refine lv_aload_n hx hb dL_law_2630 rfl (lv_at hl 1 rfl) ?_
  refine lv_aload_n hx hb dL_law_2631 rfl (lv_at hl 0 rfl) ?_
  refine lv_iload hx hb dL_law_2632 (lv_at hl 4 rfl) ?_
  refine lv_iconst (v := 1) hx hb dL_law_2634 (by decide) ?_
  refine lv_iadd hx hb dL_law_2635 ?_
  refine lo_xald hx hb hX hbl hS (hcd 1 (by decide)) dL_law_2636 ?_
  refine lv_aload_n hx hb dL_law_2637 rfl (lv_at hl 0 rfl) ?_
  refine lv_iload hx hb dL_law_2638 (lv_at hl 4 rfl) ?_
  refine lv_iconst (v := 2) hx hb dL_law_2640 (by decide) ?_
  refine lv_iadd hx hb dL_law_2641 ?_
  refine lo_xald hx hb hX hbl hS (hcd 2 (by decide)) dL_law_2642 ?_
  refine lv_aload_n hx hb dL_law_2643 rfl (lv_at hl 3 rfl) ?_
  have hw := hH σ μ o hI ((xs (x4 + 1).toNatClampNeg)) ((xs (x4 + 2).toNatClampNeg))
  refine lo_callL ⟨hx, hb, hml, hown, hts⟩ (c_L_wouldGain l hfl D cI cZ cG cL ad q1 q2 q3 oa hw) (vx_cwSW 4 hts (gk_gS ml_L_262 st_L_wouldGain in_L co_L_wouldGain) rfl rfl rfl (by decide +kernel) ⟨Nat.le_of_ble_eq_true rfl, Nat.le_of_ble_eq_true rfl⟩) hD hW hK hY hN hS rfl hl.1 (rest := []) rfl (lv_room (Nat.le_of_ble_eq_true rfl)) dL_law_2644 ⟨by omega, by omega⟩ (fun r5 σ5 o5 H locs hw hW hS => ?_)
  refine lv_istore (lv' := [(5, .int r5), (0, .ref b), (1, .ref (ad 0)), (2, .ref (am 38)), (3, .ref oa), (4, .int x4)]) hx hb dL_law_2647 hl (by decide) rfl (fun ls hl => ?_)
  refine lv_aload_n hx hb dL_law_2649 rfl (lv_at hl 3 rfl) ?_
  refine lv_aload_n hx hb dL_law_2650 rfl (lv_at hl 1 rfl) ?_
  refine lv_iload hx hb dL_law_2651 (lv_at hl 5 rfl) ?_
  refine lv_iconst (v := 1) hx hb dL_law_2653 (by decide) ?_
  refine lv_iadd hx hb dL_law_2654 ?_
  refine lo_xald hx hb hX hbl hS (hcd 1 (by decide)) dL_law_2655 ?_
  refine lv_aload_n hx hb dL_law_2656 rfl (lv_at hl 1 rfl) ?_
  refine lv_iload hx hb dL_law_2657 (lv_at hl 5 rfl) ?_
  refine lv_iconst (v := 2) hx hb dL_law_2659 (by decide) ?_
  refine lv_iadd hx hb dL_law_2660 ?_
  refine lo_xald hx hb hX hbl hS (hcd 2 (by decide)) dL_law_2661 ?_
  refine lo_callMi ⟨hx, hb, hml, hown, hts⟩ (c_X9_wouldGain l D cI cZ cG cL am hw) (cwV 2 hts (gk_gV ml_L_264 im_X9_wouldGain se_X9_wouldGain in_X9 co_X9_wouldGain) rfl rfl rfl (by decide +kernel) ⟨Nat.le_of_ble_eq_true rfl, Nat.le_of_ble_eq_true rfl⟩) (gk_recv hK.1 (mk_obj hW.2.1) rfl) hD hW hK hS rfl hl.1 (rest := []) rfl (lv_room (Nat.le_of_ble_eq_true rfl)) dL_law_2662 ⟨by omega, by omega⟩ (fun r6 μ6 H locs hw hW hS => ?_)
  obtain ⟨hth, ho, hI⟩ := hw
  refine lv_istore (lv' := [(6, .int r6), (5, .int r5), (0, .ref b), (1, .ref (ad 0)), (2, .ref (am 38)), (3, .ref oa), (4, .int x4)]) hx hb dL_law_2665 hl (by decide) rfl (fun ls hl => ?_)
  refine lv_aload_n hx hb dL_law_2667 rfl (lv_at hl 4 rfl) ?_
  refine lo_callMi ⟨hx, hb, hml, hown, hts⟩ (c_X9_thrown l D cI cZ cG cL am (Q := fun r => r = r5) hth) (cwV 0 hts (gk_gV ml_L_133 im_X9_thrown se_X9_thrown in_X9 co_X9_thrown) rfl rfl rfl (by decide +kernel) ⟨Nat.le_of_ble_eq_true rfl, Nat.le_of_ble_eq_true rfl⟩) (gk_recv hK.1 (mk_obj hW.2.1) rfl) hD hW hK hS rfl hl.1 (rest := []) rfl (lv_room (Nat.le_of_ble_eq_true rfl)) dL_law_2668 ⟨by omega, by omega⟩ (fun r7 μ7 H locs hw7 hW hS => ?_)
  rw [hw7.1] at hW
  have hw7 := hw7.2
  refine lv_iload hx hb dL_law_2671 (lv_at hl 1 rfl) ?_
  refine lv_icmp_eq (tgt := 2678) hx hb dL_law_2673 (by decide) (fun c2673 => ?_) (fun c2673 => ?_)
  · refine lv_iload hx hb dL_law_2678 (lv_at hl 1 rfl) ?_
    refine lv_if_ne (tgt := 2695) hx hb dL_law_2680 (by decide) (fun c2680 => ?_) (fun c2680 => ?_)
    · refine lv_goto (tgt := 2753) hx hb dL_law_2695 (by decide) ?_
      refine W.widen (k := k0 + 60) (n := n0 + 6000) (by omega) (by omega) ?_
      exact kN _ _ _ _ _ _ _ hI hW hS hd0 (lv_sub hl [2, 3, 4, 5, 6] rfl)
    · have ho := ho c2680
      refine lv_aload_n hx hb dL_law_2683 rfl (lv_at hl 5 rfl) ?_
      refine lv_iconst (v := 0) hx hb dL_law_2684 (by decide) ?_
      refine lo_lald hx hb hK hW.2.2 dL_law_2685 ?_
      refine lv_iload hx hb dL_law_2686 (lv_at hl 0 rfl) ?_
      refine lv_i2l (v := r6.toInt64) hx hb dL_law_2688 rfl ?_
      refine lo_lcmp hx hb (ho) dL_law_2689 ?_
      refine lv_if_eq (tgt := 2695) hx hb dL_law_2690 (by decide) (fun c2690 => ?_) (fun c2690 => ?_)
      · refine lv_goto (tgt := 2753) hx hb dL_law_2695 (by decide) ?_
        refine W.widen (k := k0 + 60) (n := n0 + 6000) (by omega) (by omega) ?_
        exact kN _ _ _ _ _ _ _ hI hW hS hd0 (lv_sub hl [2, 3, 4, 5, 6] rfl)
      · exact absurd rfl c2690
  · exact absurd hw7 c2673
set_option maxHeartbeats 4000000 in
set_option maxRecDepth 100000 in
theorem lo_case_39 {p : Program} {l : Launch} {e : Env} {s : State} {m : MethodId} {below : List Frame} {meth : Method} {c : Code} {D : va_G} {cI cZ cG cL : ClassId} {ad am : Nat → Nat} {q1 q2 q3 oa b L : Nat} {xs : Nat → Int32} (C0 : lo_C p s m meth c l D cI cZ cG cL ad am q1 q2 q3 oa b L xs) {cs : List Choice} (hnb : nanBits ∈ cs) {I : gk_C → gk_C → Prop} {Q : State → Prop} {x4 : Int32} {k0 n0 : Nat} (hcd : lo_cd L x4) (hk : k0 + 60 ≤ room_1.cells) (hn : n0 + 6000 ≤ room_1.slots) (kN : lo_Next cs I p l e room_1 s m below meth c D cI cZ cL ad am oa b Q x4 (k0 + 60) (n0 + 6000)) (hH : ∀ (σ μ : gk_C), I σ μ → w_X8_openness σ (fun r σ1 => w_X9_openness μ (fun r1 μ1 => (Op.cmpValue (FP.dcmp r r1) .l = 0 ∨ (¬ Op.cmpValue (FP.dcmp r r) .l = 0 ∧ ¬ Op.cmpValue (FP.dcmp r1 r1) .l = 0)) ∧ I σ1 μ1))) {σ μ : gk_C} {o : Int64} {H : Heap} {locs : List Loc} {d0 : Drawn} {ls : Array Slot} (hI : I σ μ) (hW : lo_W D cI cZ cL ad am oa σ μ o H) (hS : va_S (lo_A s.heap.size) s.heap H locs) (hd0 : s.drawn.sameBut d0 cs) (hl : lv_has ls 9 [(0, .ref b), (1, .ref (ad 0)), (2, .ref (am 38)), (3, .ref oa), (4, .int x4)]) : W p l e room_1 (s.setDrawn d0) m #[Value.ref b] below meth c H locs k0 n0 Q (F0 m 2698 ls []) := by
  obtain ⟨hx, hb, hml, hown, hts0, hr, hlocks, hfl, hK0, hY0, hN0, hD, hX0, hbl⟩ := C0
  have hts := dr_words hts0 d0
  have hK := hK0.drawn d0
  have hY := hY0.drawn d0
  have hN : gk_NC (s.setDrawn d0) := hN0
  have hX : va_X b L xs (s.setDrawn d0) s.heap := hX0
  refine lv_aload_n hx hb dL_law_2698 rfl (lv_at hl 1 rfl) ?_
  have hw := hH σ μ hI
  refine lo_callGd hd0 ⟨hx, hb, hml, hown, hts⟩ (c_X8_openness l D cI cZ cG cL ad hnb hw) (cwV 0 hts (gk_gV ml_L_265 im_X8_openness se_X8_openness in_X8 co_X8_openness) rfl rfl rfl (by decide +kernel) ⟨Nat.le_of_ble_eq_true rfl, Nat.le_of_ble_eq_true rfl⟩) (gk_recv hK.1 (gk_o0 hW.1) rfl) hD hW hK0 hS rfl hl.1 (rest := []) rfl (lv_room (Nat.le_of_ble_eq_true rfl)) dL_law_2699 ⟨by omega, by omega⟩ (fun r5 σ5 H locs d1 hd0 hw hW hS => ?_)
  have hts := dr_words hts0 d1
  have hK := hK0.drawn d1
  refine lv_dstore (lv' := [(5, .double r5), (0, .ref b), (1, .ref (ad 0)), (2, .ref (am 38)), (3, .ref oa), (4, .int x4)]) hx hb dL_law_2702 hl (by decide) rfl (fun ls hl => ?_)
  refine lv_aload_n hx hb dL_law_2704 rfl (lv_at hl 3 rfl) ?_
  refine lo_callMd hd0 ⟨hx, hb, hml, hown, hts⟩ (c_X9_openness l D cI cZ cG cL am hnb hw) (cwV 0 hts (gk_gV ml_L_269 im_X9_openness se_X9_openness in_X9 co_X9_openness) rfl rfl rfl (by decide +kernel) ⟨Nat.le_of_ble_eq_true rfl, Nat.le_of_ble_eq_true rfl⟩) (gk_recv hK.1 (mk_obj hW.2.1) rfl) hD hW hK0 hS rfl hl.1 (rest := []) rfl (lv_room (Nat.le_of_ble_eq_true rfl)) dL_law_2705 ⟨by omega, by omega⟩ (fun r6 μ6 H locs d1 hd0 hw hW hS => ?_)
  obtain ⟨hal, hI⟩ := hw
  refine lv_dstore (lv' := [(7, .double r6), (5, .double r5), (0, .ref b), (1, .ref (ad 0)), (2, .ref (am 38)), (3, .ref oa), (4, .int x4)]) hx hb dL_law_2708 hl (by decide) rfl (fun ls hl => ?_)
  refine lv_dload hx hb dL_law_2710 (lv_at hl 1 rfl) ?_
  refine lv_dload hx hb dL_law_2712 (lv_at hl 0 rfl) ?_
  refine lv_dcmp hx hb dL_law_2714 ?_
  refine lv_if_eq (tgt := 2736) hx hb dL_law_2715 (by decide) (fun c2715 => ?_) (fun c2715 => ?_)
  · refine lv_goto (tgt := 2753) hx hb dL_law_2736 (by decide) ?_
    refine W.widen (k := k0 + 60) (n := n0 + 6000) (by omega) (by omega) ?_
    exact kN _ _ _ _ _ _ _ hI hW hS hd0 (lv_sub hl [2, 3, 4, 5, 6] rfl)
  · have hal := hal.resolve_left c2715
    refine lv_dload hx hb dL_law_2718 (lv_at hl 1 rfl) ?_
    refine lv_dload hx hb dL_law_2720 (lv_at hl 1 rfl) ?_
    refine lv_dcmp hx hb dL_law_2722 ?_
    refine lv_if_eq (tgt := 2734) hx hb dL_law_2723 (by decide) (fun c2723 => ?_) (fun c2723 => ?_)
    · exact absurd c2723 hal.1
    · refine lv_dload hx hb dL_law_2726 (lv_at hl 0 rfl) ?_
      refine lv_dload hx hb dL_law_2728 (lv_at hl 0 rfl) ?_
      refine lv_dcmp hx hb dL_law_2730 ?_
      refine lv_if_ne (tgt := 2736) hx hb dL_law_2731 (by decide) (fun c2731 => ?_) (fun c2731 => ?_)
      · refine lv_goto (tgt := 2753) hx hb dL_law_2736 (by decide) ?_
        refine W.widen (k := k0 + 60) (n := n0 + 6000) (by omega) (by omega) ?_
        exact kN _ _ _ _ _ _ _ hI hW hS hd0 (lv_sub hl [2, 3, 4, 5, 6] rfl)
      · exact absurd c2731 hal.2
set_option maxHeartbeats 4000000 in
set_option maxRecDepth 100000 in
theorem lo_case_40 {p : Program} {l : Launch} {e : Env} {s : State} {m : MethodId} {below : List Frame} {meth : Method} {c : Code} {D : va_G} {cI cZ cG cL : ClassId} {ad am : Nat → Nat} {q1 q2 q3 oa b L : Nat} {xs : Nat → Int32} (C0 : lo_C p s m meth c l D cI cZ cG cL ad am q1 q2 q3 oa b L xs) {cs : List Choice} (hnb : nanBits ∈ cs) {I : gk_C → gk_C → Prop} {Q : State → Prop} {x4 : Int32} {k0 n0 : Nat} (hcd : lo_cd L x4) (hk : k0 + 60 ≤ room_1.cells) (hn : n0 + 6000 ≤ room_1.slots) (kN : lo_Next cs I p l e room_1 s m below meth c D cI cZ cL ad am oa b Q x4 (k0 + 60) (n0 + 6000)) (hH : ∀ (σ μ : gk_C), I σ μ → w_X8_digest σ (fun r σ1 => w_X9_digest μ (fun r1 μ1 => r = r1 ∧ I σ1 μ1))) {σ μ : gk_C} {o : Int64} {H : Heap} {locs : List Loc} {d0 : Drawn} {ls : Array Slot} (hI : I σ μ) (hW : lo_W D cI cZ cL ad am oa σ μ o H) (hS : va_S (lo_A s.heap.size) s.heap H locs) (hd0 : s.drawn.sameBut d0 cs) (hl : lv_has ls 9 [(0, .ref b), (1, .ref (ad 0)), (2, .ref (am 38)), (3, .ref oa), (4, .int x4)]) : W p l e room_1 (s.setDrawn d0) m #[Value.ref b] below meth c H locs k0 n0 Q (F0 m 2739 ls []) := by
  obtain ⟨hx, hb, hml, hown, hts0, hr, hlocks, hfl, hK0, hY0, hN0, hD, hX0, hbl⟩ := C0
  have hts := dr_words hts0 d0
  have hK := hK0.drawn d0
  have hY := hY0.drawn d0
  have hN : gk_NC (s.setDrawn d0) := hN0
  have hX : va_X b L xs (s.setDrawn d0) s.heap := hX0
  refine lv_aload_n hx hb dL_law_2739 rfl (lv_at hl 1 rfl) ?_
  have hw := hH σ μ hI
  refine lo_callGl ⟨hx, hb, hml, hown, hts⟩ (c_X8_digest l D cI cZ cG cL ad hw) (cwV 0 hts (gk_gV ml_L_270 im_X8_digest se_X8_digest in_X8 co_X8_digest) rfl rfl rfl (by decide +kernel) ⟨Nat.le_of_ble_eq_true rfl, Nat.le_of_ble_eq_true rfl⟩) (gk_recv hK.1 (gk_o0 hW.1) rfl) hD hW hK hS rfl hl.1 (rest := []) rfl (lv_room (Nat.le_of_ble_eq_true rfl)) dL_law_2740 ⟨by omega, by omega⟩ (fun r5 σ5 H locs hw hW hS => ?_)
  refine lv_aload_n hx hb dL_law_2743 rfl (lv_at hl 2 rfl) ?_
  refine lo_callMl ⟨hx, hb, hml, hown, hts⟩ (c_X9_digest l D cI cZ cG cL am hw) (cwV 0 hts (gk_gV ml_L_274 im_X9_digest se_X9_digest in_X9 co_X9_digest) rfl rfl rfl (by decide +kernel) ⟨Nat.le_of_ble_eq_true rfl, Nat.le_of_ble_eq_true rfl⟩) (gk_recv hK.1 (mk_obj hW.2.1) rfl) hD hW hK hS rfl hl.1 (rest := [.long r5]) rfl (lv_room (Nat.le_of_ble_eq_true rfl)) dL_law_2744 ⟨by omega, by omega⟩ (fun r6 μ6 H locs hw hW hS => ?_)
  obtain ⟨he, hI⟩ := hw
  refine lo_lcmp hx hb (he) dL_law_2747 ?_
  refine lv_if_eq (tgt := 2753) hx hb dL_law_2748 (by decide) (fun c2748 => ?_) (fun c2748 => ?_)
  · refine W.widen (k := k0 + 60) (n := n0 + 6000) (by omega) (by omega) ?_
    exact kN _ _ _ _ _ _ _ hI hW hS hd0 (lv_sub hl [0, 1, 2, 3, 4] rfl)
  · exact absurd rfl c2748
