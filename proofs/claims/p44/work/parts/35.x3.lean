/-! laid by wip/p44/classx.py: wp predicates and walks -/
def wJ_X9_addRule_241 (Q : Int32 → nk_C → (Nat → Option Nat) → Nat → (Nat → Int32) → Prop) (σ : nk_C) (t1 : Int32) (t2 : Int32) (fR : Nat → Option Nat) (fn2 : Nat → Int32) (qn2 : Nat) : Prop := (vp_in t1 9 ∧ ∀ g241 : Nat → Int32, g241 = (upd fn2 (Int32.toNatClampNeg t1) t2) → w_X9_draw σ 24 (fun r248 σ248 => ∀ g251 : Nat → Int32, g251 = (upd g241 (Int32.toNatClampNeg 7) r248) → w_X9_draw σ248 24 (fun r258 σ258 => ∀ g261 : Nat → Int32, g261 = (upd g251 (Int32.toNatClampNeg 8) r258) → w_X8_setTerms σ258.1 ((σ258.2.2 17) - 1) (g261 (Int32.toNatClampNeg 6)) (g261 (Int32.toNatClampNeg 7)) (g261 (Int32.toNatClampNeg 8)) (fun r284 s284 => ((¬ r284 = 0) → (Q 0 (s284, σ258.2) fR qn2 g261)) ∧ ((r284 = 0) → (Q 1 (s284, σ258.2) fR qn2 g261))))))
def wJ_X9_addRule_199 (Q : Int32 → nk_C → (Nat → Option Nat) → Nat → (Nat → Int32) → Prop) (σ : nk_C) (t1 : Int32) (t2 : Int32) (fR : Nat → Option Nat) (fn2 : Nat → Int32) (qn2 : Nat) : Prop := (w_X8_setRule σ.1 t1 t2 (fn2 (Int32.toNatClampNeg 5)) (fun r202 s202 => ((r202 = 0) → (w_X9_draw (s202, σ.2) 3 (fun r212 σ212 => ((r212 ≤ 0) → (w_X9_draw σ212 3 (fun r225 σ225 => ((¬ r225 = 0) → (wJ_X9_addRule_241 Q σ225 6 0 fR fn2 qn2)) ∧ ((r225 = 0) → (w_X9_draw σ225 8 (fun r234 σ234 => wJ_X9_addRule_241 Q σ234 6 r234 fR fn2 qn2)))))) ∧ ((¬ r212 ≤ 0) → (Q 1 σ212 fR qn2 fn2))))) ∧ ((¬ r202 = 0) → (Q 0 (s202, σ.2) fR qn2 fn2))))
def wJ_X9_addRule_151 (Q : Int32 → nk_C → (Nat → Option Nat) → Nat → (Nat → Int32) → Prop) (σ : nk_C) (t1 : Int32) (fR : Nat → Option Nat) (fn2 : Nat → Int32) (qn2 : Nat) : Prop := (w_X8_addRule σ.1 t1 (fn2 (Int32.toNatClampNeg 1)) (fn2 (Int32.toNatClampNeg 2)) (fn2 (Int32.toNatClampNeg 3)) (fun r160 s160 => ((¬ r160 = ((s160, σ.2).2.2 17)) → (Q 0 (nk_s (s160, σ.2) 17 (((s160, σ.2).2.2 17) + 1)) fR qn2 fn2)) ∧ ((r160 = ((s160, σ.2).2.2 17)) → (((¬ (fn2 (Int32.toNatClampNeg 4)) = 1) → (wJ_X9_addRule_199 Q (nk_s (s160, σ.2) 17 (((s160, σ.2).2.2 17) + 1)) (((nk_s (s160, σ.2) 17 (((s160, σ.2).2.2 17) + 1)).2.2 17) - 1) 0 fR fn2 qn2)) ∧ (((fn2 (Int32.toNatClampNeg 4)) = 1) → (wJ_X9_addRule_199 Q (nk_s (s160, σ.2) 17 (((s160, σ.2).2.2 17) + 1)) (((nk_s (s160, σ.2) 17 (((s160, σ.2).2.2 17) + 1)).2.2 17) - 1) 1 fR fn2 qn2))))))
def wJ_X9_addRule_107 (Q : Int32 → nk_C → (Nat → Option Nat) → Nat → (Nat → Int32) → Prop) (σ : nk_C) (t2 : Int32) (t3 : Int32) (fR : Nat → Option Nat) (fn2 : Nat → Int32) (qn2 : Nat) : Prop := (vp_in t2 9 ∧ ∀ g107 : Nat → Int32, g107 = (upd fn2 (Int32.toNatClampNeg t2) t3) → ∀ g112 : Nat → Int32, g112 = (upd g107 (Int32.toNatClampNeg 6) 0) → ∀ g117 : Nat → Int32, g117 = (upd g112 (Int32.toNatClampNeg 7) 0) → ∀ g123 : Nat → Int32, g123 = (upd g117 (Int32.toNatClampNeg 8) 23) → vp_in (σ.2.2 17) 20 ∧ ∀ (f134 : Nat → Option Nat), f134 = (va_up fR (σ.2.2 17).toNatClampNeg (some qn2)) → ((¬ (g123 (Int32.toNatClampNeg 0)) = 1) → (wJ_X9_addRule_151 Q σ 0 f134 g123 qn2)) ∧ (((g123 (Int32.toNatClampNeg 0)) = 1) → (wJ_X9_addRule_151 Q σ 1 f134 g123 qn2)))
def wJ_X9_addRule_52 (Q : Int32 → nk_C → (Nat → Option Nat) → Nat → (Nat → Int32) → Prop) (σ : nk_C) (t2 : Int32) (t3 : Int32) (fR : Nat → Option Nat) (fn2 : Nat → Int32) (qn2 : Nat) : Prop := (vp_in t2 9 ∧ ∀ g52 : Nat → Int32, g52 = (upd fn2 (Int32.toNatClampNeg t2) t3) → w_X9_draw σ 31 (fun r59 σ59 => ∀ g63 : Nat → Int32, g63 = (upd g52 (Int32.toNatClampNeg 2) (1 + r59)) → w_X9_draw σ59 (σ59.2.2 12) (fun r71 σ71 => ∀ g74 : Nat → Int32, g74 = (upd g63 (Int32.toNatClampNeg 3) r71) → w_X9_draw σ71 2 (fun r79 σ79 => ∀ g82 : Nat → Int32, g82 = (upd g74 (Int32.toNatClampNeg 4) r79) → w_X9_draw σ79 4 (fun r87 σ87 => ((¬ r87 = 0) → (w_X9_draw σ87 2 (fun r104 σ104 => wJ_X9_addRule_107 Q σ104 5 r104 fR g82 qn2))) ∧ ((r87 = 0) → (w_X9_draw σ87 10 (fun r96 σ96 => wJ_X9_addRule_107 Q σ96 5 r96 fR g82 qn2))))))))
def wJ_X9_addRule_19 (Q : Int32 → nk_C → (Nat → Option Nat) → Nat → (Nat → Int32) → Prop) (σ : nk_C) (t2 : Int32) (t3 : Int32) (fR : Nat → Option Nat) (fn2 : Nat → Int32) (qn2 : Nat) : Prop := (vp_in t2 9 ∧ ∀ g19 : Nat → Int32, g19 = (upd fn2 (Int32.toNatClampNeg t2) t3) → w_X9_draw σ 2 (fun r24 σ24 => ((¬ r24 = 0) → (w_X9_draw σ24 (σ24.2.2 9) (fun r48 σ48 => wJ_X9_addRule_52 Q σ48 1 (12 + r48) fR g19 qn2))) ∧ ((r24 = 0) → (w_X9_draw σ24 (σ24.2.2 5) (fun r35 σ35 => wJ_X9_addRule_52 Q σ35 1 r35 fR g19 qn2)))))
def w_X9_addRule (σ : nk_C) (fR : Nat → Option Nat) (Q : Int32 → nk_C → (Nat → Option Nat) → Nat → (Nat → Int32) → Prop) : Prop := (∀ qn2 : Nat, w_X9_draw σ 3 (fun r8 σ8 => ((¬ r8 = 0) → (wJ_X9_addRule_19 Q σ8 0 1 fR (fun _ => 0) qn2)) ∧ ((r8 = 0) → (wJ_X9_addRule_19 Q σ8 0 0 fR (fun _ => 0) qn2))))
abbrev rmX9_addRule : Room := { frames := 3, cells := 1, slots := 9, locals := 71 }
set_option maxHeartbeats 4000000 in
set_option maxRecDepth 100000 in
theorem tJ_X9_addRule_241 {p : Program} {l : Launch} {e : Env} {s : State} {m : MethodId} {args : Array Value} {below : List Frame} {meth : Method} {c : Code} {D : va_G} {cI cZ cG cL : ClassId} {ad am : Nat → Nat} {q1 q2 q3 b0 L : Nat} {xs : Nat → Int32} (C0 : gk_F p s m args meth c cX9_addRule 2 (some .boolean) RX9) (hK : gk_K D cI cZ cG cL s) (hZ : nk_Z q1 q2 q3 b0 L xs (nk_A1 ad am 18 s.heap.size) s s.heap) {Q : Int32 → nk_C → (Nat → Option Nat) → Nat → (Nat → Int32) → Prop} : ∀ (σ : nk_C) (t1 : Int32) (t2 : Int32) (fR : Nat → Option Nat) (fn2 : Nat → Int32) (qn2 : Nat), wJ_X9_addRule_241 Q σ t1 t2 fR fn2 qn2 → ∀ (H : Heap) (locs : List Loc), nk_W D cI cZ cL ad am b0 σ H → va_S (nk_A1 ad am 18 s.heap.size) s.heap H locs → s.heap.size ≤ qn2 → am 18 ≠ qn2 → nk_O D cG ad am (am 18) fR H → nk_D D cI ad am qn2 9 fn2 H → ∀ (ls : Array Slot), lv_has ls 2 [(0, .ref (am 0)), (1, .ref qn2)] → W p l e rmX9_addRule s m args below meth c H locs 1 9 (MQ below (va_Qi (fun r (u : nk_C × (Nat → Option Nat) × Nat × (Nat → Int32)) => Q r u.1 u.2.1 u.2.2.1 u.2.2.2) (fun u t => nk_W D cI cZ cL ad am b0 u.1 t.heap ∧ nk_O D cG ad am (am 18) u.2.1 t.heap ∧ nk_D D cI ad am u.2.2.1 9 u.2.2.2 t.heap ∧ s.heap.size ≤ u.2.2.1) (nk_A1 ad am 18 s.heap.size)) args s 1 9 (nk_A1 ad am 18 s.heap.size)) (F0 m 241 ls [.int t2, .int t1, .ref qn2]) := by
  obtain ⟨hx, hb, hml, hown, hts, hr, hlocks⟩ := id C0
  intro σ t1 t2 fR fn2 qn2 hw H locs hW hS hgn2 hnen2 hdR hdn2 ls hl
  obtain ⟨hin, hw⟩ := hw
  refine gk_iast hx hb hK.1 hS (Or.inr (Or.inr (Or.inr hgn2))) 0 hdn2.1 rfl hin dX9_addRule_241 (fun H locs h1 _ oq hS => ?_)
  have hW := hW.keptN hdn2.2.1 hdn2.2.2 oq
  have hdR := hdR.oq oq hnen2
  have hdn2 : nk_D D cI ad am qn2 9 (upd fn2 (Int32.toNatClampNeg t1) t2) H := ⟨h1, hdn2.2⟩
  obtain ⟨g241, eg241⟩ : ∃ z, z = (upd fn2 (Int32.toNatClampNeg t1) t2) := ⟨_, rfl⟩
  rw [← eg241] at hdn2
  have hw := hw g241 eg241
  refine lv_aload_n hx hb dX9_addRule_242 rfl (lv_at hl 1 rfl) ?_
  refine lv_bipush (v := 7) hx hb dX9_addRule_243 (by decide) ?_
  refine lv_aload_n hx hb dX9_addRule_245 rfl (lv_at hl 0 rfl) ?_
  refine lv_bipush (v := 24) hx hb dX9_addRule_246 (by decide) ?_
  refine nk_callVi ⟨hx, hb, hml, hown, hts⟩ (c_X9_draw l D cI cZ cG cL ad am q1 q2 q3 b0 L xs hw) (cwV 1 hts (gk_gV ml_X9_78 im_X9_draw se_X9_draw in_X9 co_X9_draw) rfl rfl rfl (by decide +kernel) ⟨Nat.le_of_ble_eq_true rfl, Nat.le_of_ble_eq_true rfl⟩) (gk_recv hK.1 (nk_obj hW) rfl) hW hK hZ trivial hS (fun q h => Or.inr (nk_A.up hS.1 q h)) rfl hl.1 (rest := [.int 7, .ref qn2]) rfl (lv_room (Nat.le_of_ble_eq_true rfl)) dX9_addRule_248 ⟨Nat.le_of_ble_eq_true rfl, Nat.le_of_ble_eq_true rfl⟩ (fun r248 σ248 H locs hw hW _ hk hS => ?_)
  have hdR := hdR.kept hk
  have hdn2 := hdn2.kept hk
  refine gk_iast hx hb hK.1 hS (Or.inr (Or.inr (Or.inr hgn2))) 0 hdn2.1 rfl (pk_in 7 9 (by decide)) dX9_addRule_251 (fun H locs h1 _ oq hS => ?_)
  have hW := hW.keptN hdn2.2.1 hdn2.2.2 oq
  have hdR := hdR.oq oq hnen2
  have hdn2 : nk_D D cI ad am qn2 9 (upd g241 (Int32.toNatClampNeg 7) r248) H := ⟨h1, hdn2.2⟩
  obtain ⟨g251, eg251⟩ : ∃ z, z = (upd g241 (Int32.toNatClampNeg 7) r248) := ⟨_, rfl⟩
  rw [← eg251] at hdn2
  have hw := hw g251 eg251
  refine lv_aload_n hx hb dX9_addRule_252 rfl (lv_at hl 1 rfl) ?_
  refine lv_bipush (v := 8) hx hb dX9_addRule_253 (by decide) ?_
  refine lv_aload_n hx hb dX9_addRule_255 rfl (lv_at hl 0 rfl) ?_
  refine lv_bipush (v := 24) hx hb dX9_addRule_256 (by decide) ?_
  refine nk_callVi ⟨hx, hb, hml, hown, hts⟩ (c_X9_draw l D cI cZ cG cL ad am q1 q2 q3 b0 L xs hw) (cwV 1 hts (gk_gV ml_X9_78 im_X9_draw se_X9_draw in_X9 co_X9_draw) rfl rfl rfl (by decide +kernel) ⟨Nat.le_of_ble_eq_true rfl, Nat.le_of_ble_eq_true rfl⟩) (gk_recv hK.1 (nk_obj hW) rfl) hW hK hZ trivial hS (fun q h => Or.inr (nk_A.up hS.1 q h)) rfl hl.1 (rest := [.int 8, .ref qn2]) rfl (lv_room (Nat.le_of_ble_eq_true rfl)) dX9_addRule_258 ⟨Nat.le_of_ble_eq_true rfl, Nat.le_of_ble_eq_true rfl⟩ (fun r258 σ258 H locs hw hW _ hk hS => ?_)
  have hdR := hdR.kept hk
  have hdn2 := hdn2.kept hk
  refine gk_iast hx hb hK.1 hS (Or.inr (Or.inr (Or.inr hgn2))) 0 hdn2.1 rfl (pk_in 8 9 (by decide)) dX9_addRule_261 (fun H locs h1 _ oq hS => ?_)
  have hW := hW.keptN hdn2.2.1 hdn2.2.2 oq
  have hdR := hdR.oq oq hnen2
  have hdn2 : nk_D D cI ad am qn2 9 (upd g251 (Int32.toNatClampNeg 8) r258) H := ⟨h1, hdn2.2⟩
  obtain ⟨g261, eg261⟩ : ∃ z, z = (upd g251 (Int32.toNatClampNeg 8) r258) := ⟨_, rfl⟩
  rw [← eg261] at hdn2
  have hw := hw g261 eg261
  refine lv_aload_n hx hb dX9_addRule_262 rfl (lv_at hl 0 rfl) ?_
  refine gk_get hx hb hts iwX9 hown hK.1 (nk_obj hW) rfl 0 (by decide) (hts _ fl_X9_10) (fun _ h9 => h9) rfl dX9_addRule_263 ?_
  refine lv_aload_n hx hb dX9_addRule_266 rfl (lv_at hl 0 rfl) ?_
  refine gk_get hx hb hts iwX9 hown hK.1 (nk_obj hW) rfl 17 (by decide) (hts _ fl_X9_142) (fun _ h9 => h9) rfl dX9_addRule_267 ?_
  refine lv_iconst (v := 1) hx hb dX9_addRule_270 (by decide) ?_
  refine lv_isub hx hb dX9_addRule_271 ?_
  refine lv_aload_n hx hb dX9_addRule_272 rfl (lv_at hl 1 rfl) ?_
  refine lv_bipush (v := 6) hx hb dX9_addRule_273 (by decide) ?_
  refine gk_iald hx hb hK.1 0 hdn2.1 rfl (pk_in 6 9 (by decide)) dX9_addRule_275 ?_
  refine lv_aload_n hx hb dX9_addRule_276 rfl (lv_at hl 1 rfl) ?_
  refine lv_bipush (v := 7) hx hb dX9_addRule_277 (by decide) ?_
  refine gk_iald hx hb hK.1 0 hdn2.1 rfl (pk_in 7 9 (by decide)) dX9_addRule_279 ?_
  refine lv_aload_n hx hb dX9_addRule_280 rfl (lv_at hl 1 rfl) ?_
  refine lv_bipush (v := 8) hx hb dX9_addRule_281 (by decide) ?_
  refine gk_iald hx hb hK.1 0 hdn2.1 rfl (pk_in 8 9 (by decide)) dX9_addRule_283 ?_
  refine nk_gVi ⟨hx, hb, hml, hown, hts⟩ (c_X8_setTerms l D cI cZ cG cL ad hw) (cwV 4 hts (gk_gV ml_X9_153 im_X8_setTerms se_X8_setTerms in_X8 co_X8_setTerms) rfl rfl rfl (by decide +kernel) ⟨Nat.le_of_ble_eq_true rfl, Nat.le_of_ble_eq_true rfl⟩) (gk_recv hK.1 (gk_o0 hW.1) rfl) hW hK hS (fun q h => Or.inr (nk_A.up hS.1 q h)) rfl hl.1 (rest := []) rfl (lv_room (Nat.le_of_ble_eq_true rfl)) dX9_addRule_284 ⟨Nat.le_of_ble_eq_true rfl, Nat.le_of_ble_eq_true rfl⟩ (fun r284 s284 H locs hw hW _ hk hS => ?_)
  have hdR := hdR.gate hk
  have hdn2 := hdn2.gate hk
  refine lv_if_ne (tgt := 294) hx hb dX9_addRule_287 (by decide) (fun c287 => ?_) (fun c287 => ?_)
  · have hw := hw.1 c287
    refine lv_iconst (v := 0) hx hb dX9_addRule_294 (by decide) ?_
    refine W.widen (k := 1) (n := 9) (Nat.le_of_ble_eq_true rfl) (Nat.le_of_ble_eq_true rfl) ?_
    exact nk_reto C0 (by decide) (u := ((s284, σ258.2), fR, qn2, g261)) hw hW hdR hdn2 hgn2 hS dX9_addRule_295
  · have hw := hw.2 c287
    refine lv_iconst (v := 1) hx hb dX9_addRule_290 (by decide) ?_
    refine lv_goto (tgt := 295) hx hb dX9_addRule_291 (by decide) ?_
    refine W.widen (k := 1) (n := 9) (Nat.le_of_ble_eq_true rfl) (Nat.le_of_ble_eq_true rfl) ?_
    exact nk_reto C0 (by decide) (u := ((s284, σ258.2), fR, qn2, g261)) hw hW hdR hdn2 hgn2 hS dX9_addRule_295
set_option maxHeartbeats 4000000 in
set_option maxRecDepth 100000 in
theorem tJ_X9_addRule_199 {p : Program} {l : Launch} {e : Env} {s : State} {m : MethodId} {args : Array Value} {below : List Frame} {meth : Method} {c : Code} {D : va_G} {cI cZ cG cL : ClassId} {ad am : Nat → Nat} {q1 q2 q3 b0 L : Nat} {xs : Nat → Int32} (C0 : gk_F p s m args meth c cX9_addRule 2 (some .boolean) RX9) (hK : gk_K D cI cZ cG cL s) (hZ : nk_Z q1 q2 q3 b0 L xs (nk_A1 ad am 18 s.heap.size) s s.heap) {Q : Int32 → nk_C → (Nat → Option Nat) → Nat → (Nat → Int32) → Prop} : ∀ (σ : nk_C) (t1 : Int32) (t2 : Int32) (fR : Nat → Option Nat) (fn2 : Nat → Int32) (qn2 : Nat), wJ_X9_addRule_199 Q σ t1 t2 fR fn2 qn2 → ∀ (H : Heap) (locs : List Loc), nk_W D cI cZ cL ad am b0 σ H → va_S (nk_A1 ad am 18 s.heap.size) s.heap H locs → s.heap.size ≤ qn2 → am 18 ≠ qn2 → nk_O D cG ad am (am 18) fR H → nk_D D cI ad am qn2 9 fn2 H → ∀ (ls : Array Slot), lv_has ls 2 [(0, .ref (am 0)), (1, .ref qn2)] → W p l e rmX9_addRule s m args below meth c H locs 1 9 (MQ below (va_Qi (fun r (u : nk_C × (Nat → Option Nat) × Nat × (Nat → Int32)) => Q r u.1 u.2.1 u.2.2.1 u.2.2.2) (fun u t => nk_W D cI cZ cL ad am b0 u.1 t.heap ∧ nk_O D cG ad am (am 18) u.2.1 t.heap ∧ nk_D D cI ad am u.2.2.1 9 u.2.2.2 t.heap ∧ s.heap.size ≤ u.2.2.1) (nk_A1 ad am 18 s.heap.size)) args s 1 9 (nk_A1 ad am 18 s.heap.size)) (F0 m 199 ls [.int t2, .int t1, .ref (ad 0)]) := by
  obtain ⟨hx, hb, hml, hown, hts, hr, hlocks⟩ := id C0
  intro σ t1 t2 fR fn2 qn2 hw H locs hW hS hgn2 hnen2 hdR hdn2 ls hl
  refine lv_aload_n hx hb dX9_addRule_199 rfl (lv_at hl 1 rfl) ?_
  refine lv_iconst (v := 5) hx hb dX9_addRule_200 (by decide) ?_
  refine gk_iald hx hb hK.1 0 hdn2.1 rfl (pk_in 5 9 (by decide)) dX9_addRule_201 ?_
  refine nk_gVi ⟨hx, hb, hml, hown, hts⟩ (c_X8_setRule l D cI cZ cG cL ad hw) (cwV 3 hts (gk_gV ml_X9_149 im_X8_setRule se_X8_setRule in_X8 co_X8_setRule) rfl rfl rfl (by decide +kernel) ⟨Nat.le_of_ble_eq_true rfl, Nat.le_of_ble_eq_true rfl⟩) (gk_recv hK.1 (gk_o0 hW.1) rfl) hW hK hS (fun q h => Or.inr (nk_A.up hS.1 q h)) rfl hl.1 (rest := []) rfl (lv_room (Nat.le_of_ble_eq_true rfl)) dX9_addRule_202 ⟨Nat.le_of_ble_eq_true rfl, Nat.le_of_ble_eq_true rfl⟩ (fun r202 s202 H locs hw hW _ hk hS => ?_)
  have hdR := hdR.gate hk
  have hdn2 := hdn2.gate hk
  refine lv_if_eq (tgt := 210) hx hb dX9_addRule_205 (by decide) (fun c205 => ?_) (fun c205 => ?_)
  · have hw := hw.1 c205
    refine lv_aload_n hx hb dX9_addRule_210 rfl (lv_at hl 0 rfl) ?_
    refine lv_iconst (v := 3) hx hb dX9_addRule_211 (by decide) ?_
    refine nk_callVi ⟨hx, hb, hml, hown, hts⟩ (c_X9_draw l D cI cZ cG cL ad am q1 q2 q3 b0 L xs hw) (cwV 1 hts (gk_gV ml_X9_78 im_X9_draw se_X9_draw in_X9 co_X9_draw) rfl rfl rfl (by decide +kernel) ⟨Nat.le_of_ble_eq_true rfl, Nat.le_of_ble_eq_true rfl⟩) (gk_recv hK.1 (nk_obj hW) rfl) hW hK hZ trivial hS (fun q h => Or.inr (nk_A.up hS.1 q h)) rfl hl.1 (rest := []) rfl (lv_room (Nat.le_of_ble_eq_true rfl)) dX9_addRule_212 ⟨Nat.le_of_ble_eq_true rfl, Nat.le_of_ble_eq_true rfl⟩ (fun r212 σ212 H locs hw hW _ hk hS => ?_)
    have hdR := hdR.kept hk
    have hdn2 := hdn2.kept hk
    refine lv_if_le (tgt := 220) hx hb dX9_addRule_215 (by decide) (fun c215 => ?_) (fun c215 => ?_)
    · have hw := hw.1 c215
      refine lv_aload_n hx hb dX9_addRule_220 rfl (lv_at hl 1 rfl) ?_
      refine lv_bipush (v := 6) hx hb dX9_addRule_221 (by decide) ?_
      refine lv_aload_n hx hb dX9_addRule_223 rfl (lv_at hl 0 rfl) ?_
      refine lv_iconst (v := 3) hx hb dX9_addRule_224 (by decide) ?_
      refine nk_callVi ⟨hx, hb, hml, hown, hts⟩ (c_X9_draw l D cI cZ cG cL ad am q1 q2 q3 b0 L xs hw) (cwV 1 hts (gk_gV ml_X9_78 im_X9_draw se_X9_draw in_X9 co_X9_draw) rfl rfl rfl (by decide +kernel) ⟨Nat.le_of_ble_eq_true rfl, Nat.le_of_ble_eq_true rfl⟩) (gk_recv hK.1 (nk_obj hW) rfl) hW hK hZ trivial hS (fun q h => Or.inr (nk_A.up hS.1 q h)) rfl hl.1 (rest := [.int 6, .ref qn2]) rfl (lv_room (Nat.le_of_ble_eq_true rfl)) dX9_addRule_225 ⟨Nat.le_of_ble_eq_true rfl, Nat.le_of_ble_eq_true rfl⟩ (fun r225 σ225 H locs hw hW _ hk hS => ?_)
      have hdR := hdR.kept hk
      have hdn2 := hdn2.kept hk
      refine lv_if_ne (tgt := 240) hx hb dX9_addRule_228 (by decide) (fun c228 => ?_) (fun c228 => ?_)
      · have hw := hw.1 c228
        refine lv_iconst (v := 0) hx hb dX9_addRule_240 (by decide) ?_
        refine tJ_X9_addRule_241 C0 hK hZ  σ225 6 0 fR fn2 qn2 hw _ _ hW hS hgn2 hnen2 hdR hdn2 _ hl
      · have hw := hw.2 c228
        refine lv_aload_n hx hb dX9_addRule_231 rfl (lv_at hl 0 rfl) ?_
        refine lv_bipush (v := 8) hx hb dX9_addRule_232 (by decide) ?_
        refine nk_callVi ⟨hx, hb, hml, hown, hts⟩ (c_X9_draw l D cI cZ cG cL ad am q1 q2 q3 b0 L xs hw) (cwV 1 hts (gk_gV ml_X9_78 im_X9_draw se_X9_draw in_X9 co_X9_draw) rfl rfl rfl (by decide +kernel) ⟨Nat.le_of_ble_eq_true rfl, Nat.le_of_ble_eq_true rfl⟩) (gk_recv hK.1 (nk_obj hW) rfl) hW hK hZ trivial hS (fun q h => Or.inr (nk_A.up hS.1 q h)) rfl hl.1 (rest := [.int 6, .ref qn2]) rfl (lv_room (Nat.le_of_ble_eq_true rfl)) dX9_addRule_234 ⟨Nat.le_of_ble_eq_true rfl, Nat.le_of_ble_eq_true rfl⟩ (fun r234 σ234 H locs hw hW _ hk hS => ?_)
        have hdR := hdR.kept hk
        have hdn2 := hdn2.kept hk
        refine lv_goto (tgt := 241) hx hb dX9_addRule_237 (by decide) ?_
        refine tJ_X9_addRule_241 C0 hK hZ  σ234 6 r234 fR fn2 qn2 hw _ _ hW hS hgn2 hnen2 hdR hdn2 _ hl
    · have hw := hw.2 c215
      refine lv_iconst (v := 1) hx hb dX9_addRule_218 (by decide) ?_
      refine W.widen (k := 1) (n := 9) (Nat.le_of_ble_eq_true rfl) (Nat.le_of_ble_eq_true rfl) ?_
      exact nk_reto C0 (by decide) (u := (σ212, fR, qn2, fn2)) hw hW hdR hdn2 hgn2 hS dX9_addRule_219
  · have hw := hw.2 c205
    refine lv_iconst (v := 0) hx hb dX9_addRule_208 (by decide) ?_
    refine W.widen (k := 1) (n := 9) (Nat.le_of_ble_eq_true rfl) (Nat.le_of_ble_eq_true rfl) ?_
    exact nk_reto C0 (by decide) (u := ((s202, σ.2), fR, qn2, fn2)) hw hW hdR hdn2 hgn2 hS dX9_addRule_209
set_option maxHeartbeats 4000000 in
set_option maxRecDepth 100000 in
theorem tJ_X9_addRule_151 {p : Program} {l : Launch} {e : Env} {s : State} {m : MethodId} {args : Array Value} {below : List Frame} {meth : Method} {c : Code} {D : va_G} {cI cZ cG cL : ClassId} {ad am : Nat → Nat} {q1 q2 q3 b0 L : Nat} {xs : Nat → Int32} (C0 : gk_F p s m args meth c cX9_addRule 2 (some .boolean) RX9) (hK : gk_K D cI cZ cG cL s) (hZ : nk_Z q1 q2 q3 b0 L xs (nk_A1 ad am 18 s.heap.size) s s.heap) {Q : Int32 → nk_C → (Nat → Option Nat) → Nat → (Nat → Int32) → Prop} : ∀ (σ : nk_C) (t1 : Int32) (fR : Nat → Option Nat) (fn2 : Nat → Int32) (qn2 : Nat), wJ_X9_addRule_151 Q σ t1 fR fn2 qn2 → ∀ (H : Heap) (locs : List Loc), nk_W D cI cZ cL ad am b0 σ H → va_S (nk_A1 ad am 18 s.heap.size) s.heap H locs → s.heap.size ≤ qn2 → am 18 ≠ qn2 → nk_O D cG ad am (am 18) fR H → nk_D D cI ad am qn2 9 fn2 H → ∀ (ls : Array Slot), lv_has ls 2 [(0, .ref (am 0)), (1, .ref qn2)] → W p l e rmX9_addRule s m args below meth c H locs 1 9 (MQ below (va_Qi (fun r (u : nk_C × (Nat → Option Nat) × Nat × (Nat → Int32)) => Q r u.1 u.2.1 u.2.2.1 u.2.2.2) (fun u t => nk_W D cI cZ cL ad am b0 u.1 t.heap ∧ nk_O D cG ad am (am 18) u.2.1 t.heap ∧ nk_D D cI ad am u.2.2.1 9 u.2.2.2 t.heap ∧ s.heap.size ≤ u.2.2.1) (nk_A1 ad am 18 s.heap.size)) args s 1 9 (nk_A1 ad am 18 s.heap.size)) (F0 m 151 ls [.int t1, .ref (ad 0)]) := by
  obtain ⟨hx, hb, hml, hown, hts, hr, hlocks⟩ := id C0
  intro σ t1 fR fn2 qn2 hw H locs hW hS hgn2 hnen2 hdR hdn2 ls hl
  refine lv_aload_n hx hb dX9_addRule_151 rfl (lv_at hl 1 rfl) ?_
  refine lv_iconst (v := 1) hx hb dX9_addRule_152 (by decide) ?_
  refine gk_iald hx hb hK.1 0 hdn2.1 rfl (pk_in 1 9 (by decide)) dX9_addRule_153 ?_
  refine lv_aload_n hx hb dX9_addRule_154 rfl (lv_at hl 1 rfl) ?_
  refine lv_iconst (v := 2) hx hb dX9_addRule_155 (by decide) ?_
  refine gk_iald hx hb hK.1 0 hdn2.1 rfl (pk_in 2 9 (by decide)) dX9_addRule_156 ?_
  refine lv_aload_n hx hb dX9_addRule_157 rfl (lv_at hl 1 rfl) ?_
  refine lv_iconst (v := 3) hx hb dX9_addRule_158 (by decide) ?_
  refine gk_iald hx hb hK.1 0 hdn2.1 rfl (pk_in 3 9 (by decide)) dX9_addRule_159 ?_
  refine nk_gVi ⟨hx, hb, hml, hown, hts⟩ (c_X8_addRule l D cI cZ cG cL ad hw) (cwV 4 hts (gk_gV ml_X9_145 im_X8_addRule se_X8_addRule in_X8 co_X8_addRule) rfl rfl rfl (by decide +kernel) ⟨Nat.le_of_ble_eq_true rfl, Nat.le_of_ble_eq_true rfl⟩) (gk_recv hK.1 (gk_o0 hW.1) rfl) hW hK hS (fun q h => Or.inr (nk_A.up hS.1 q h)) rfl hl.1 (rest := []) rfl (lv_room (Nat.le_of_ble_eq_true rfl)) dX9_addRule_160 ⟨Nat.le_of_ble_eq_true rfl, Nat.le_of_ble_eq_true rfl⟩ (fun r160 s160 H locs hw hW _ hk hS => ?_)
  have hdR := hdR.gate hk
  have hdn2 := hdn2.gate hk
  refine lv_aload_n hx hb dX9_addRule_163 rfl (lv_at hl 0 rfl) ?_
  refine lv_dup hx hb dX9_addRule_164 rfl ?_
  refine gk_get hx hb hts iwX9 hown hK.1 (nk_obj hW) rfl 17 (by decide) (hts _ fl_X9_142) (fun _ h9 => h9) rfl dX9_addRule_165 ?_
  refine lv_dup_x1 hx hb dX9_addRule_168 rfl rfl ?_
  refine lv_iconst (v := 1) hx hb dX9_addRule_169 (by decide) ?_
  refine lv_iadd hx hb dX9_addRule_170 ?_
  refine gk_putf (ty := .int) (v := .int (((s160, σ.2).2.2 17) + 1)) hx hb hts iwX9 tyX9 tyX9_ok nmX9 hown hK.1 hS (Or.inr (nk_A.in (by decide))) (nk_obj hW) rfl 17 (by decide) (hts _ fl_X9_142) (fun _ h9 => h9) rfl (by decide +kernel) rfl rfl (Nat.le_of_ble_eq_true rfl) dX9_addRule_171 (fun H locs h1 _ oq hS => ?_)
  have hW := hW.setS (i := 17) (v := (((s160, σ.2).2.2 17) + 1)) h1 oq
  have hdR := hdR.oqS (k := 0) (by decide) oq
  have hdn2 := hdn2.oqS (k := 0) (by decide) oq
  refine lv_icmp_ne (tgt := 208) hx hb dX9_addRule_174 (by decide) (fun c174 => ?_) (fun c174 => ?_)
  · have hw := hw.1 c174
    refine lv_iconst (v := 0) hx hb dX9_addRule_208 (by decide) ?_
    refine W.widen (k := 1) (n := 9) (Nat.le_of_ble_eq_true rfl) (Nat.le_of_ble_eq_true rfl) ?_
    exact nk_reto C0 (by decide) (u := ((nk_s (s160, σ.2) 17 (((s160, σ.2).2.2 17) + 1)), fR, qn2, fn2)) hw hW hdR hdn2 hgn2 hS dX9_addRule_209
  · have hw := hw.2 c174
    refine lv_aload_n hx hb dX9_addRule_177 rfl (lv_at hl 0 rfl) ?_
    refine gk_get hx hb hts iwX9 hown hK.1 (nk_obj hW) rfl 0 (by decide) (hts _ fl_X9_10) (fun _ h9 => h9) rfl dX9_addRule_178 ?_
    refine lv_aload_n hx hb dX9_addRule_181 rfl (lv_at hl 0 rfl) ?_
    refine gk_get hx hb hts iwX9 hown hK.1 (nk_obj hW) rfl 17 (by decide) (hts _ fl_X9_142) (fun _ h9 => h9) rfl dX9_addRule_182 ?_
    refine lv_iconst (v := 1) hx hb dX9_addRule_185 (by decide) ?_
    refine lv_isub hx hb dX9_addRule_186 ?_
    refine lv_aload_n hx hb dX9_addRule_187 rfl (lv_at hl 1 rfl) ?_
    refine lv_iconst (v := 4) hx hb dX9_addRule_188 (by decide) ?_
    refine gk_iald hx hb hK.1 0 hdn2.1 rfl (pk_in 4 9 (by decide)) dX9_addRule_189 ?_
    refine lv_iconst (v := 1) hx hb dX9_addRule_190 (by decide) ?_
    refine lv_icmp_ne (tgt := 198) hx hb dX9_addRule_191 (by decide) (fun c191 => ?_) (fun c191 => ?_)
    · have hw := hw.1 c191
      refine lv_iconst (v := 0) hx hb dX9_addRule_198 (by decide) ?_
      refine tJ_X9_addRule_199 C0 hK hZ  (nk_s (s160, σ.2) 17 (((s160, σ.2).2.2 17) + 1)) (((nk_s (s160, σ.2) 17 (((s160, σ.2).2.2 17) + 1)).2.2 17) - 1) 0 fR fn2 qn2 hw _ _ hW hS hgn2 hnen2 hdR hdn2 _ hl
    · have hw := hw.2 c191
      refine lv_iconst (v := 1) hx hb dX9_addRule_194 (by decide) ?_
      refine lv_goto (tgt := 199) hx hb dX9_addRule_195 (by decide) ?_
      refine tJ_X9_addRule_199 C0 hK hZ  (nk_s (s160, σ.2) 17 (((s160, σ.2).2.2 17) + 1)) (((nk_s (s160, σ.2) 17 (((s160, σ.2).2.2 17) + 1)).2.2 17) - 1) 1 fR fn2 qn2 hw _ _ hW hS hgn2 hnen2 hdR hdn2 _ hl
set_option maxHeartbeats 4000000 in
set_option maxRecDepth 100000 in
theorem tJ_X9_addRule_107 {p : Program} {l : Launch} {e : Env} {s : State} {m : MethodId} {args : Array Value} {below : List Frame} {meth : Method} {c : Code} {D : va_G} {cI cZ cG cL : ClassId} {ad am : Nat → Nat} {q1 q2 q3 b0 L : Nat} {xs : Nat → Int32} (C0 : gk_F p s m args meth c cX9_addRule 2 (some .boolean) RX9) (hK : gk_K D cI cZ cG cL s) (hZ : nk_Z q1 q2 q3 b0 L xs (nk_A1 ad am 18 s.heap.size) s s.heap) {Q : Int32 → nk_C → (Nat → Option Nat) → Nat → (Nat → Int32) → Prop} : ∀ (σ : nk_C) (t2 : Int32) (t3 : Int32) (fR : Nat → Option Nat) (fn2 : Nat → Int32) (qn2 : Nat), wJ_X9_addRule_107 Q σ t2 t3 fR fn2 qn2 → ∀ (H : Heap) (locs : List Loc), nk_W D cI cZ cL ad am b0 σ H → va_S (nk_A1 ad am 18 s.heap.size) s.heap H locs → s.heap.size ≤ qn2 → am 18 ≠ qn2 → nk_O D cG ad am (am 18) fR H → nk_D D cI ad am qn2 9 fn2 H → ∀ (ls : Array Slot), lv_has ls 2 [(0, .ref (am 0))] → W p l e rmX9_addRule s m args below meth c H locs 1 9 (MQ below (va_Qi (fun r (u : nk_C × (Nat → Option Nat) × Nat × (Nat → Int32)) => Q r u.1 u.2.1 u.2.2.1 u.2.2.2) (fun u t => nk_W D cI cZ cL ad am b0 u.1 t.heap ∧ nk_O D cG ad am (am 18) u.2.1 t.heap ∧ nk_D D cI ad am u.2.2.1 9 u.2.2.2 t.heap ∧ s.heap.size ≤ u.2.2.1) (nk_A1 ad am 18 s.heap.size)) args s 1 9 (nk_A1 ad am 18 s.heap.size)) (F0 m 107 ls [.int t3, .int t2, .ref qn2, .ref qn2]) := by
  obtain ⟨hx, hb, hml, hown, hts, hr, hlocks⟩ := id C0
  intro σ t2 t3 fR fn2 qn2 hw H locs hW hS hgn2 hnen2 hdR hdn2 ls hl
  obtain ⟨hin, hw⟩ := hw
  refine gk_iast hx hb hK.1 hS (Or.inr (Or.inr (Or.inr hgn2))) 0 hdn2.1 rfl hin dX9_addRule_107 (fun H locs h1 _ oq hS => ?_)
  have hW := hW.keptN hdn2.2.1 hdn2.2.2 oq
  have hdR := hdR.oq oq hnen2
  have hdn2 : nk_D D cI ad am qn2 9 (upd fn2 (Int32.toNatClampNeg t2) t3) H := ⟨h1, hdn2.2⟩
  obtain ⟨g107, eg107⟩ : ∃ z, z = (upd fn2 (Int32.toNatClampNeg t2) t3) := ⟨_, rfl⟩
  rw [← eg107] at hdn2
  have hw := hw g107 eg107
  refine lv_dup hx hb dX9_addRule_108 rfl ?_
  refine lv_bipush (v := 6) hx hb dX9_addRule_109 (by decide) ?_
  refine lv_iconst (v := 0) hx hb dX9_addRule_111 (by decide) ?_
  refine gk_iast hx hb hK.1 hS (Or.inr (Or.inr (Or.inr hgn2))) 0 hdn2.1 rfl (pk_in 6 9 (by decide)) dX9_addRule_112 (fun H locs h1 _ oq hS => ?_)
  have hW := hW.keptN hdn2.2.1 hdn2.2.2 oq
  have hdR := hdR.oq oq hnen2
  have hdn2 : nk_D D cI ad am qn2 9 (upd g107 (Int32.toNatClampNeg 6) 0) H := ⟨h1, hdn2.2⟩
  obtain ⟨g112, eg112⟩ : ∃ z, z = (upd g107 (Int32.toNatClampNeg 6) 0) := ⟨_, rfl⟩
  rw [← eg112] at hdn2
  have hw := hw g112 eg112
  refine lv_dup hx hb dX9_addRule_113 rfl ?_
  refine lv_bipush (v := 7) hx hb dX9_addRule_114 (by decide) ?_
  refine lv_iconst (v := 0) hx hb dX9_addRule_116 (by decide) ?_
  refine gk_iast hx hb hK.1 hS (Or.inr (Or.inr (Or.inr hgn2))) 0 hdn2.1 rfl (pk_in 7 9 (by decide)) dX9_addRule_117 (fun H locs h1 _ oq hS => ?_)
  have hW := hW.keptN hdn2.2.1 hdn2.2.2 oq
  have hdR := hdR.oq oq hnen2
  have hdn2 : nk_D D cI ad am qn2 9 (upd g112 (Int32.toNatClampNeg 7) 0) H := ⟨h1, hdn2.2⟩
  obtain ⟨g117, eg117⟩ : ∃ z, z = (upd g112 (Int32.toNatClampNeg 7) 0) := ⟨_, rfl⟩
  rw [← eg117] at hdn2
  have hw := hw g117 eg117
  refine lv_dup hx hb dX9_addRule_118 rfl ?_
  refine lv_bipush (v := 8) hx hb dX9_addRule_119 (by decide) ?_
  refine lv_bipush (v := 23) hx hb dX9_addRule_121 (by decide) ?_
  refine gk_iast hx hb hK.1 hS (Or.inr (Or.inr (Or.inr hgn2))) 0 hdn2.1 rfl (pk_in 8 9 (by decide)) dX9_addRule_123 (fun H locs h1 _ oq hS => ?_)
  have hW := hW.keptN hdn2.2.1 hdn2.2.2 oq
  have hdR := hdR.oq oq hnen2
  have hdn2 : nk_D D cI ad am qn2 9 (upd g117 (Int32.toNatClampNeg 8) 23) H := ⟨h1, hdn2.2⟩
  obtain ⟨g123, eg123⟩ : ∃ z, z = (upd g117 (Int32.toNatClampNeg 8) 23) := ⟨_, rfl⟩
  rw [← eg123] at hdn2
  have hw := hw g123 eg123
  refine lv_astore_n (lv' := [(1, .ref qn2), (0, .ref (am 0))]) hx hb dX9_addRule_124 rfl hl (by decide) rfl (fun ls hl => ?_)
  refine lv_aload_n hx hb dX9_addRule_125 rfl (lv_at hl 1 rfl) ?_
  refine gk_get hx hb hts iwX9 hown hK.1 (nk_obj hW) rfl 18 (by decide) (hts _ fl_X9_51) (fun _ h9 => h9) rfl dX9_addRule_126 ?_
  refine lv_aload_n hx hb dX9_addRule_129 rfl (lv_at hl 1 rfl) ?_
  refine gk_get hx hb hts iwX9 hown hK.1 (nk_obj hW) rfl 17 (by decide) (hts _ fl_X9_142) (fun _ h9 => h9) rfl dX9_addRule_130 ?_
  refine lv_aload_n hx hb dX9_addRule_133 rfl (lv_at hl 0 rfl) ?_
  obtain ⟨hin, hw⟩ := hw
  refine nk_astg hx hb hK hS (Or.inl rfl) hdR.1 hdn2.1 hin dX9_addRule_134 (fun H locs h1 oq hz hS => ?_)
  have hW := hW.keptN hdR.2.1 hdR.2.2 oq
  have hdn2 := hdn2.oq oq (Ne.symm hnen2)
  have hdR : nk_O D cG ad am (am 18) (va_up fR (σ.2.2 17).toNatClampNeg (some qn2)) H := ⟨h1, hdR.2⟩
  obtain ⟨f134, ef134⟩ : ∃ z, z = (va_up fR (σ.2.2 17).toNatClampNeg (some qn2)) := ⟨_, rfl⟩
  rw [← ef134] at hdR
  have hw := hw f134 ef134
  refine lv_aload_n hx hb dX9_addRule_135 rfl (lv_at hl 1 rfl) ?_
  refine gk_get hx hb hts iwX9 hown hK.1 (nk_obj hW) rfl 0 (by decide) (hts _ fl_X9_10) (fun _ h9 => h9) rfl dX9_addRule_136 ?_
  refine lv_aload_n hx hb dX9_addRule_139 rfl (lv_at hl 0 rfl) ?_
  refine lv_iconst (v := 0) hx hb dX9_addRule_140 (by decide) ?_
  refine gk_iald hx hb hK.1 0 hdn2.1 rfl (pk_in 0 9 (by decide)) dX9_addRule_141 ?_
  refine lv_iconst (v := 1) hx hb dX9_addRule_142 (by decide) ?_
  refine lv_icmp_ne (tgt := 150) hx hb dX9_addRule_143 (by decide) (fun c143 => ?_) (fun c143 => ?_)
  · have hw := hw.1 c143
    refine lv_iconst (v := 0) hx hb dX9_addRule_150 (by decide) ?_
    refine tJ_X9_addRule_151 C0 hK hZ  σ 0 f134 g123 qn2 hw _ _ hW hS hgn2 hnen2 hdR hdn2 _ (lv_sub hl [1, 0] rfl)
  · have hw := hw.2 c143
    refine lv_iconst (v := 1) hx hb dX9_addRule_146 (by decide) ?_
    refine lv_goto (tgt := 151) hx hb dX9_addRule_147 (by decide) ?_
    refine tJ_X9_addRule_151 C0 hK hZ  σ 1 f134 g123 qn2 hw _ _ hW hS hgn2 hnen2 hdR hdn2 _ (lv_sub hl [1, 0] rfl)
set_option maxHeartbeats 4000000 in
set_option maxRecDepth 100000 in
theorem tJ_X9_addRule_52 {p : Program} {l : Launch} {e : Env} {s : State} {m : MethodId} {args : Array Value} {below : List Frame} {meth : Method} {c : Code} {D : va_G} {cI cZ cG cL : ClassId} {ad am : Nat → Nat} {q1 q2 q3 b0 L : Nat} {xs : Nat → Int32} (C0 : gk_F p s m args meth c cX9_addRule 2 (some .boolean) RX9) (hK : gk_K D cI cZ cG cL s) (hZ : nk_Z q1 q2 q3 b0 L xs (nk_A1 ad am 18 s.heap.size) s s.heap) {Q : Int32 → nk_C → (Nat → Option Nat) → Nat → (Nat → Int32) → Prop} : ∀ (σ : nk_C) (t2 : Int32) (t3 : Int32) (fR : Nat → Option Nat) (fn2 : Nat → Int32) (qn2 : Nat), wJ_X9_addRule_52 Q σ t2 t3 fR fn2 qn2 → ∀ (H : Heap) (locs : List Loc), nk_W D cI cZ cL ad am b0 σ H → va_S (nk_A1 ad am 18 s.heap.size) s.heap H locs → s.heap.size ≤ qn2 → am 18 ≠ qn2 → nk_O D cG ad am (am 18) fR H → nk_D D cI ad am qn2 9 fn2 H → ∀ (ls : Array Slot), lv_has ls 2 [(0, .ref (am 0))] → W p l e rmX9_addRule s m args below meth c H locs 1 9 (MQ below (va_Qi (fun r (u : nk_C × (Nat → Option Nat) × Nat × (Nat → Int32)) => Q r u.1 u.2.1 u.2.2.1 u.2.2.2) (fun u t => nk_W D cI cZ cL ad am b0 u.1 t.heap ∧ nk_O D cG ad am (am 18) u.2.1 t.heap ∧ nk_D D cI ad am u.2.2.1 9 u.2.2.2 t.heap ∧ s.heap.size ≤ u.2.2.1) (nk_A1 ad am 18 s.heap.size)) args s 1 9 (nk_A1 ad am 18 s.heap.size)) (F0 m 52 ls [.int t3, .int t2, .ref qn2, .ref qn2]) := by
  obtain ⟨hx, hb, hml, hown, hts, hr, hlocks⟩ := id C0
  intro σ t2 t3 fR fn2 qn2 hw H locs hW hS hgn2 hnen2 hdR hdn2 ls hl
  obtain ⟨hin, hw⟩ := hw
  refine gk_iast hx hb hK.1 hS (Or.inr (Or.inr (Or.inr hgn2))) 0 hdn2.1 rfl hin dX9_addRule_52 (fun H locs h1 _ oq hS => ?_)
  have hW := hW.keptN hdn2.2.1 hdn2.2.2 oq
  have hdR := hdR.oq oq hnen2
  have hdn2 : nk_D D cI ad am qn2 9 (upd fn2 (Int32.toNatClampNeg t2) t3) H := ⟨h1, hdn2.2⟩
  obtain ⟨g52, eg52⟩ : ∃ z, z = (upd fn2 (Int32.toNatClampNeg t2) t3) := ⟨_, rfl⟩
  rw [← eg52] at hdn2
  have hw := hw g52 eg52
  refine lv_dup hx hb dX9_addRule_53 rfl ?_
  refine lv_iconst (v := 2) hx hb dX9_addRule_54 (by decide) ?_
  refine lv_iconst (v := 1) hx hb dX9_addRule_55 (by decide) ?_
  refine lv_aload_n hx hb dX9_addRule_56 rfl (lv_at hl 0 rfl) ?_
  refine lv_bipush (v := 31) hx hb dX9_addRule_57 (by decide) ?_
  refine nk_callVi ⟨hx, hb, hml, hown, hts⟩ (c_X9_draw l D cI cZ cG cL ad am q1 q2 q3 b0 L xs hw) (cwV 1 hts (gk_gV ml_X9_78 im_X9_draw se_X9_draw in_X9 co_X9_draw) rfl rfl rfl (by decide +kernel) ⟨Nat.le_of_ble_eq_true rfl, Nat.le_of_ble_eq_true rfl⟩) (gk_recv hK.1 (nk_obj hW) rfl) hW hK hZ trivial hS (fun q h => Or.inr (nk_A.up hS.1 q h)) rfl hl.1 (rest := [.int 1, .int 2, .ref qn2, .ref qn2]) rfl (lv_room (Nat.le_of_ble_eq_true rfl)) dX9_addRule_59 ⟨Nat.le_of_ble_eq_true rfl, Nat.le_of_ble_eq_true rfl⟩ (fun r59 σ59 H locs hw hW _ hk hS => ?_)
  have hdR := hdR.kept hk
  have hdn2 := hdn2.kept hk
  refine lv_iadd hx hb dX9_addRule_62 ?_
  refine gk_iast hx hb hK.1 hS (Or.inr (Or.inr (Or.inr hgn2))) 0 hdn2.1 rfl (pk_in 2 9 (by decide)) dX9_addRule_63 (fun H locs h1 _ oq hS => ?_)
  have hW := hW.keptN hdn2.2.1 hdn2.2.2 oq
  have hdR := hdR.oq oq hnen2
  have hdn2 : nk_D D cI ad am qn2 9 (upd g52 (Int32.toNatClampNeg 2) (1 + r59)) H := ⟨h1, hdn2.2⟩
  obtain ⟨g63, eg63⟩ : ∃ z, z = (upd g52 (Int32.toNatClampNeg 2) (1 + r59)) := ⟨_, rfl⟩
  rw [← eg63] at hdn2
  have hw := hw g63 eg63
  refine lv_dup hx hb dX9_addRule_64 rfl ?_
  refine lv_iconst (v := 3) hx hb dX9_addRule_65 (by decide) ?_
  refine lv_aload_n hx hb dX9_addRule_66 rfl (lv_at hl 0 rfl) ?_
  refine lv_aload_n hx hb dX9_addRule_67 rfl (lv_at hl 0 rfl) ?_
  refine gk_get hx hb hts iwX9 hown hK.1 (nk_obj hW) rfl 12 (by decide) (hts _ fl_X9_34) (fun _ h9 => h9) rfl dX9_addRule_68 ?_
  refine nk_callVi ⟨hx, hb, hml, hown, hts⟩ (c_X9_draw l D cI cZ cG cL ad am q1 q2 q3 b0 L xs hw) (cwV 1 hts (gk_gV ml_X9_78 im_X9_draw se_X9_draw in_X9 co_X9_draw) rfl rfl rfl (by decide +kernel) ⟨Nat.le_of_ble_eq_true rfl, Nat.le_of_ble_eq_true rfl⟩) (gk_recv hK.1 (nk_obj hW) rfl) hW hK hZ trivial hS (fun q h => Or.inr (nk_A.up hS.1 q h)) rfl hl.1 (rest := [.int 3, .ref qn2, .ref qn2]) rfl (lv_room (Nat.le_of_ble_eq_true rfl)) dX9_addRule_71 ⟨Nat.le_of_ble_eq_true rfl, Nat.le_of_ble_eq_true rfl⟩ (fun r71 σ71 H locs hw hW _ hk hS => ?_)
  have hdR := hdR.kept hk
  have hdn2 := hdn2.kept hk
  refine gk_iast hx hb hK.1 hS (Or.inr (Or.inr (Or.inr hgn2))) 0 hdn2.1 rfl (pk_in 3 9 (by decide)) dX9_addRule_74 (fun H locs h1 _ oq hS => ?_)
  have hW := hW.keptN hdn2.2.1 hdn2.2.2 oq
  have hdR := hdR.oq oq hnen2
  have hdn2 : nk_D D cI ad am qn2 9 (upd g63 (Int32.toNatClampNeg 3) r71) H := ⟨h1, hdn2.2⟩
  obtain ⟨g74, eg74⟩ : ∃ z, z = (upd g63 (Int32.toNatClampNeg 3) r71) := ⟨_, rfl⟩
  rw [← eg74] at hdn2
  have hw := hw g74 eg74
  refine lv_dup hx hb dX9_addRule_75 rfl ?_
  refine lv_iconst (v := 4) hx hb dX9_addRule_76 (by decide) ?_
  refine lv_aload_n hx hb dX9_addRule_77 rfl (lv_at hl 0 rfl) ?_
  refine lv_iconst (v := 2) hx hb dX9_addRule_78 (by decide) ?_
  refine nk_callVi ⟨hx, hb, hml, hown, hts⟩ (c_X9_draw l D cI cZ cG cL ad am q1 q2 q3 b0 L xs hw) (cwV 1 hts (gk_gV ml_X9_78 im_X9_draw se_X9_draw in_X9 co_X9_draw) rfl rfl rfl (by decide +kernel) ⟨Nat.le_of_ble_eq_true rfl, Nat.le_of_ble_eq_true rfl⟩) (gk_recv hK.1 (nk_obj hW) rfl) hW hK hZ trivial hS (fun q h => Or.inr (nk_A.up hS.1 q h)) rfl hl.1 (rest := [.int 4, .ref qn2, .ref qn2]) rfl (lv_room (Nat.le_of_ble_eq_true rfl)) dX9_addRule_79 ⟨Nat.le_of_ble_eq_true rfl, Nat.le_of_ble_eq_true rfl⟩ (fun r79 σ79 H locs hw hW _ hk hS => ?_)
  have hdR := hdR.kept hk
  have hdn2 := hdn2.kept hk
  refine gk_iast hx hb hK.1 hS (Or.inr (Or.inr (Or.inr hgn2))) 0 hdn2.1 rfl (pk_in 4 9 (by decide)) dX9_addRule_82 (fun H locs h1 _ oq hS => ?_)
  have hW := hW.keptN hdn2.2.1 hdn2.2.2 oq
  have hdR := hdR.oq oq hnen2
  have hdn2 : nk_D D cI ad am qn2 9 (upd g74 (Int32.toNatClampNeg 4) r79) H := ⟨h1, hdn2.2⟩
  obtain ⟨g82, eg82⟩ : ∃ z, z = (upd g74 (Int32.toNatClampNeg 4) r79) := ⟨_, rfl⟩
  rw [← eg82] at hdn2
  have hw := hw g82 eg82
  refine lv_dup hx hb dX9_addRule_83 rfl ?_
  refine lv_iconst (v := 5) hx hb dX9_addRule_84 (by decide) ?_
  refine lv_aload_n hx hb dX9_addRule_85 rfl (lv_at hl 0 rfl) ?_
  refine lv_iconst (v := 4) hx hb dX9_addRule_86 (by decide) ?_
  refine nk_callVi ⟨hx, hb, hml, hown, hts⟩ (c_X9_draw l D cI cZ cG cL ad am q1 q2 q3 b0 L xs hw) (cwV 1 hts (gk_gV ml_X9_78 im_X9_draw se_X9_draw in_X9 co_X9_draw) rfl rfl rfl (by decide +kernel) ⟨Nat.le_of_ble_eq_true rfl, Nat.le_of_ble_eq_true rfl⟩) (gk_recv hK.1 (nk_obj hW) rfl) hW hK hZ trivial hS (fun q h => Or.inr (nk_A.up hS.1 q h)) rfl hl.1 (rest := [.int 5, .ref qn2, .ref qn2]) rfl (lv_room (Nat.le_of_ble_eq_true rfl)) dX9_addRule_87 ⟨Nat.le_of_ble_eq_true rfl, Nat.le_of_ble_eq_true rfl⟩ (fun r87 σ87 H locs hw hW _ hk hS => ?_)
  have hdR := hdR.kept hk
  have hdn2 := hdn2.kept hk
  refine lv_if_ne (tgt := 102) hx hb dX9_addRule_90 (by decide) (fun c90 => ?_) (fun c90 => ?_)
  · have hw := hw.1 c90
    refine lv_aload_n hx hb dX9_addRule_102 rfl (lv_at hl 0 rfl) ?_
    refine lv_iconst (v := 2) hx hb dX9_addRule_103 (by decide) ?_
    refine nk_callVi ⟨hx, hb, hml, hown, hts⟩ (c_X9_draw l D cI cZ cG cL ad am q1 q2 q3 b0 L xs hw) (cwV 1 hts (gk_gV ml_X9_78 im_X9_draw se_X9_draw in_X9 co_X9_draw) rfl rfl rfl (by decide +kernel) ⟨Nat.le_of_ble_eq_true rfl, Nat.le_of_ble_eq_true rfl⟩) (gk_recv hK.1 (nk_obj hW) rfl) hW hK hZ trivial hS (fun q h => Or.inr (nk_A.up hS.1 q h)) rfl hl.1 (rest := [.int 5, .ref qn2, .ref qn2]) rfl (lv_room (Nat.le_of_ble_eq_true rfl)) dX9_addRule_104 ⟨Nat.le_of_ble_eq_true rfl, Nat.le_of_ble_eq_true rfl⟩ (fun r104 σ104 H locs hw hW _ hk hS => ?_)
    have hdR := hdR.kept hk
    have hdn2 := hdn2.kept hk
    refine tJ_X9_addRule_107 C0 hK hZ  σ104 5 r104 fR g82 qn2 hw _ _ hW hS hgn2 hnen2 hdR hdn2 _ hl
  · have hw := hw.2 c90
    refine lv_aload_n hx hb dX9_addRule_93 rfl (lv_at hl 0 rfl) ?_
    refine lv_bipush (v := 10) hx hb dX9_addRule_94 (by decide) ?_
    refine nk_callVi ⟨hx, hb, hml, hown, hts⟩ (c_X9_draw l D cI cZ cG cL ad am q1 q2 q3 b0 L xs hw) (cwV 1 hts (gk_gV ml_X9_78 im_X9_draw se_X9_draw in_X9 co_X9_draw) rfl rfl rfl (by decide +kernel) ⟨Nat.le_of_ble_eq_true rfl, Nat.le_of_ble_eq_true rfl⟩) (gk_recv hK.1 (nk_obj hW) rfl) hW hK hZ trivial hS (fun q h => Or.inr (nk_A.up hS.1 q h)) rfl hl.1 (rest := [.int 5, .ref qn2, .ref qn2]) rfl (lv_room (Nat.le_of_ble_eq_true rfl)) dX9_addRule_96 ⟨Nat.le_of_ble_eq_true rfl, Nat.le_of_ble_eq_true rfl⟩ (fun r96 σ96 H locs hw hW _ hk hS => ?_)
    have hdR := hdR.kept hk
    have hdn2 := hdn2.kept hk
    refine lv_goto (tgt := 107) hx hb dX9_addRule_99 (by decide) ?_
    refine tJ_X9_addRule_107 C0 hK hZ  σ96 5 r96 fR g82 qn2 hw _ _ hW hS hgn2 hnen2 hdR hdn2 _ hl
set_option maxHeartbeats 4000000 in
set_option maxRecDepth 100000 in
theorem tJ_X9_addRule_19 {p : Program} {l : Launch} {e : Env} {s : State} {m : MethodId} {args : Array Value} {below : List Frame} {meth : Method} {c : Code} {D : va_G} {cI cZ cG cL : ClassId} {ad am : Nat → Nat} {q1 q2 q3 b0 L : Nat} {xs : Nat → Int32} (C0 : gk_F p s m args meth c cX9_addRule 2 (some .boolean) RX9) (hK : gk_K D cI cZ cG cL s) (hZ : nk_Z q1 q2 q3 b0 L xs (nk_A1 ad am 18 s.heap.size) s s.heap) {Q : Int32 → nk_C → (Nat → Option Nat) → Nat → (Nat → Int32) → Prop} : ∀ (σ : nk_C) (t2 : Int32) (t3 : Int32) (fR : Nat → Option Nat) (fn2 : Nat → Int32) (qn2 : Nat), wJ_X9_addRule_19 Q σ t2 t3 fR fn2 qn2 → ∀ (H : Heap) (locs : List Loc), nk_W D cI cZ cL ad am b0 σ H → va_S (nk_A1 ad am 18 s.heap.size) s.heap H locs → s.heap.size ≤ qn2 → am 18 ≠ qn2 → nk_O D cG ad am (am 18) fR H → nk_D D cI ad am qn2 9 fn2 H → ∀ (ls : Array Slot), lv_has ls 2 [(0, .ref (am 0))] → W p l e rmX9_addRule s m args below meth c H locs 1 9 (MQ below (va_Qi (fun r (u : nk_C × (Nat → Option Nat) × Nat × (Nat → Int32)) => Q r u.1 u.2.1 u.2.2.1 u.2.2.2) (fun u t => nk_W D cI cZ cL ad am b0 u.1 t.heap ∧ nk_O D cG ad am (am 18) u.2.1 t.heap ∧ nk_D D cI ad am u.2.2.1 9 u.2.2.2 t.heap ∧ s.heap.size ≤ u.2.2.1) (nk_A1 ad am 18 s.heap.size)) args s 1 9 (nk_A1 ad am 18 s.heap.size)) (F0 m 19 ls [.int t3, .int t2, .ref qn2, .ref qn2]) := by
  obtain ⟨hx, hb, hml, hown, hts, hr, hlocks⟩ := id C0
  intro σ t2 t3 fR fn2 qn2 hw H locs hW hS hgn2 hnen2 hdR hdn2 ls hl
  obtain ⟨hin, hw⟩ := hw
  refine gk_iast hx hb hK.1 hS (Or.inr (Or.inr (Or.inr hgn2))) 0 hdn2.1 rfl hin dX9_addRule_19 (fun H locs h1 _ oq hS => ?_)
  have hW := hW.keptN hdn2.2.1 hdn2.2.2 oq
  have hdR := hdR.oq oq hnen2
  have hdn2 : nk_D D cI ad am qn2 9 (upd fn2 (Int32.toNatClampNeg t2) t3) H := ⟨h1, hdn2.2⟩
  obtain ⟨g19, eg19⟩ : ∃ z, z = (upd fn2 (Int32.toNatClampNeg t2) t3) := ⟨_, rfl⟩
  rw [← eg19] at hdn2
  have hw := hw g19 eg19
  refine lv_dup hx hb dX9_addRule_20 rfl ?_
  refine lv_iconst (v := 1) hx hb dX9_addRule_21 (by decide) ?_
  refine lv_aload_n hx hb dX9_addRule_22 rfl (lv_at hl 0 rfl) ?_
  refine lv_iconst (v := 2) hx hb dX9_addRule_23 (by decide) ?_
  refine nk_callVi ⟨hx, hb, hml, hown, hts⟩ (c_X9_draw l D cI cZ cG cL ad am q1 q2 q3 b0 L xs hw) (cwV 1 hts (gk_gV ml_X9_78 im_X9_draw se_X9_draw in_X9 co_X9_draw) rfl rfl rfl (by decide +kernel) ⟨Nat.le_of_ble_eq_true rfl, Nat.le_of_ble_eq_true rfl⟩) (gk_recv hK.1 (nk_obj hW) rfl) hW hK hZ trivial hS (fun q h => Or.inr (nk_A.up hS.1 q h)) rfl hl.1 (rest := [.int 1, .ref qn2, .ref qn2]) rfl (lv_room (Nat.le_of_ble_eq_true rfl)) dX9_addRule_24 ⟨Nat.le_of_ble_eq_true rfl, Nat.le_of_ble_eq_true rfl⟩ (fun r24 σ24 H locs hw hW _ hk hS => ?_)
  have hdR := hdR.kept hk
  have hdn2 := hdn2.kept hk
  refine lv_if_ne (tgt := 41) hx hb dX9_addRule_27 (by decide) (fun c27 => ?_) (fun c27 => ?_)
  · have hw := hw.1 c27
    refine lv_bipush (v := 12) hx hb dX9_addRule_41 (by decide) ?_
    refine lv_aload_n hx hb dX9_addRule_43 rfl (lv_at hl 0 rfl) ?_
    refine lv_aload_n hx hb dX9_addRule_44 rfl (lv_at hl 0 rfl) ?_
    refine gk_get hx hb hts iwX9 hown hK.1 (nk_obj hW) rfl 9 (by decide) (hts _ fl_X9_92) (fun _ h9 => h9) rfl dX9_addRule_45 ?_
    refine nk_callVi ⟨hx, hb, hml, hown, hts⟩ (c_X9_draw l D cI cZ cG cL ad am q1 q2 q3 b0 L xs hw) (cwV 1 hts (gk_gV ml_X9_78 im_X9_draw se_X9_draw in_X9 co_X9_draw) rfl rfl rfl (by decide +kernel) ⟨Nat.le_of_ble_eq_true rfl, Nat.le_of_ble_eq_true rfl⟩) (gk_recv hK.1 (nk_obj hW) rfl) hW hK hZ trivial hS (fun q h => Or.inr (nk_A.up hS.1 q h)) rfl hl.1 (rest := [.int 12, .int 1, .ref qn2, .ref qn2]) rfl (lv_room (Nat.le_of_ble_eq_true rfl)) dX9_addRule_48 ⟨Nat.le_of_ble_eq_true rfl, Nat.le_of_ble_eq_true rfl⟩ (fun r48 σ48 H locs hw hW _ hk hS => ?_)
    have hdR := hdR.kept hk
    have hdn2 := hdn2.kept hk
    refine lv_iadd hx hb dX9_addRule_51 ?_
    refine tJ_X9_addRule_52 C0 hK hZ  σ48 1 (12 + r48) fR g19 qn2 hw _ _ hW hS hgn2 hnen2 hdR hdn2 _ hl
  · have hw := hw.2 c27
    refine lv_aload_n hx hb dX9_addRule_30 rfl (lv_at hl 0 rfl) ?_
    refine lv_aload_n hx hb dX9_addRule_31 rfl (lv_at hl 0 rfl) ?_
    refine gk_get hx hb hts iwX9 hown hK.1 (nk_obj hW) rfl 5 (by decide) (hts _ fl_X9_82) (fun _ h9 => h9) rfl dX9_addRule_32 ?_
    refine nk_callVi ⟨hx, hb, hml, hown, hts⟩ (c_X9_draw l D cI cZ cG cL ad am q1 q2 q3 b0 L xs hw) (cwV 1 hts (gk_gV ml_X9_78 im_X9_draw se_X9_draw in_X9 co_X9_draw) rfl rfl rfl (by decide +kernel) ⟨Nat.le_of_ble_eq_true rfl, Nat.le_of_ble_eq_true rfl⟩) (gk_recv hK.1 (nk_obj hW) rfl) hW hK hZ trivial hS (fun q h => Or.inr (nk_A.up hS.1 q h)) rfl hl.1 (rest := [.int 1, .ref qn2, .ref qn2]) rfl (lv_room (Nat.le_of_ble_eq_true rfl)) dX9_addRule_35 ⟨Nat.le_of_ble_eq_true rfl, Nat.le_of_ble_eq_true rfl⟩ (fun r35 σ35 H locs hw hW _ hk hS => ?_)
    have hdR := hdR.kept hk
    have hdn2 := hdn2.kept hk
    refine lv_goto (tgt := 52) hx hb dX9_addRule_38 (by decide) ?_
    refine tJ_X9_addRule_52 C0 hK hZ  σ35 1 r35 fR g19 qn2 hw _ _ hW hS hgn2 hnen2 hdR hdn2 _ hl
set_option maxHeartbeats 4000000 in
set_option maxRecDepth 100000 in
theorem c_X9_addRule (l : Launch) (D : va_G) (cI cZ cG cL : ClassId) (ad am : Nat → Nat) (q1 q2 q3 b0 L : Nat) (xs : Nat → Int32) {σ : nk_C} {fR : Nat → Option Nat} {Q : Int32 → nk_C → (Nat → Option Nat) → Nat → (Nat → Int32) → Prop} {sz : Nat} (hw : w_X9_addRule σ fR Q) : Met l yX9_addRule wsX9_addRule rmX9_addRule (nk_PcO 18 D cI cZ cG cL ad am q1 q2 q3 b0 L xs [.ref (am 0)] sz σ fR) (va_Qi (fun r (u : nk_C × (Nat → Option Nat) × Nat × (Nat → Int32)) => Q r u.1 u.2.1 u.2.2.1 u.2.2.2) (fun u t => nk_W D cI cZ cL ad am b0 u.1 t.heap ∧ nk_O D cG ad am (am 18) u.2.1 t.heap ∧ nk_D D cI ad am u.2.2.1 9 u.2.2.2 t.heap ∧ sz ≤ u.2.2.1) (nk_A1 ad am 18 sz)) 1 9 (nk_A1 ad am 18 sz) := by
  refine Met.ofW (cc := cX9_addRule) (maxL := 2) (ret := (some .boolean)) (by decide) rfl ?_
  intro p e s m args below meth c s₁ B hml0 hv0
  obtain ⟨rfl, hsz, hW, hK, hZ, hX⟩ := hv0
  subst hsz
  have hdR : nk_O D cG ad am (am 18) fR s.heap := hX
  have C0 : gk_F p s m ([.ref (am 0)] : List Value).toArray meth c cX9_addRule 2 (some .boolean) RX9 := ⟨B.exec, B.bytes, hml0, findClass_of_methodNamed B.named, fun w hw => atoms_spec (ws := wsX9_addRule) B.pre w (List.mem_cons_of_mem _ hw), B.returns, B.notSynchronized⟩
  obtain ⟨hx, hb, hml, hown, hts, hr, hlocks⟩ := id C0
  have hS : va_S (nk_A1 ad am 18 s.heap.size) s.heap s.heap [] := va_S.rf
  have hl := lv_entry ([.ref (am 0)]) (n := 2) (Nat.le_of_ble_eq_true rfl)
  rw [lg_entry_eq]
  generalize (lg_sl ([.ref (am 0)]) ++ List.replicate (2 - (lg_sl ([.ref (am 0)])).length) Slot.unset).toArray = ls at hl ⊢
  have hl : lv_has ls 2 [(0, .ref (am 0))] := hl
  show W p l e rmX9_addRule s m _ below meth c s.heap [] 0 0 _ _
  refine lv_bipush (v := 9) hx hb dX9_addRule_0 (by decide) ?_
  refine nk_newi (N' := 9) hx hb (hts _ ac_int) hK hW hS (by decide) rfl (by decide) ⟨Nat.le_of_ble_eq_true rfl, Nat.le_of_ble_eq_true rfl⟩ dX9_addRule_2 (fun qn2 H hdn2 hqn2 hgn2 hk hS => ?_)
  have hW := hW.keptAll hk
  have hw := hw qn2
  have hnen2 : am 18 ≠ qn2 := by have := hdR.1.lt; omega
  have hdR := hdR.keptAll hk
  refine lv_dup hx hb dX9_addRule_4 rfl ?_
  refine lv_iconst (v := 0) hx hb dX9_addRule_5 (by decide) ?_
  refine lv_aload_n hx hb dX9_addRule_6 rfl (lv_at hl 0 rfl) ?_
  refine lv_iconst (v := 3) hx hb dX9_addRule_7 (by decide) ?_
  refine nk_callVi ⟨hx, hb, hml, hown, hts⟩ (c_X9_draw l D cI cZ cG cL ad am q1 q2 q3 b0 L xs hw) (cwV 1 hts (gk_gV ml_X9_78 im_X9_draw se_X9_draw in_X9 co_X9_draw) rfl rfl rfl (by decide +kernel) ⟨Nat.le_of_ble_eq_true rfl, Nat.le_of_ble_eq_true rfl⟩) (gk_recv hK.1 (nk_obj hW) rfl) hW hK hZ trivial hS (fun q h => Or.inr (nk_A.up hS.1 q h)) rfl hl.1 (rest := [.int 0, .ref qn2, .ref qn2]) rfl (lv_room (Nat.le_of_ble_eq_true rfl)) dX9_addRule_8 ⟨Nat.le_of_ble_eq_true rfl, Nat.le_of_ble_eq_true rfl⟩ (fun r8 σ8 H locs hw hW _ hk hS => ?_)
  have hdR := hdR.kept hk
  have hdn2 := hdn2.kept hk
  refine lv_if_ne (tgt := 18) hx hb dX9_addRule_11 (by decide) (fun c11 => ?_) (fun c11 => ?_)
  · have hw := hw.1 c11
    refine lv_iconst (v := 1) hx hb dX9_addRule_18 (by decide) ?_
    refine tJ_X9_addRule_19 C0 hK hZ  σ8 0 1 fR (fun _ => 0) qn2 hw _ _ hW hS hgn2 hnen2 hdR hdn2 _ hl
  · have hw := hw.2 c11
    refine lv_iconst (v := 0) hx hb dX9_addRule_14 (by decide) ?_
    refine lv_goto (tgt := 19) hx hb dX9_addRule_15 (by decide) ?_
    refine tJ_X9_addRule_19 C0 hK hZ  σ8 0 0 fR (fun _ => 0) qn2 hw _ _ hW hS hgn2 hnen2 hdR hdn2 _ hl
def w_X9_addGrant (σ : nk_C) (fR : Nat → Option Nat) (Q : Int32 → nk_C → (Nat → Option Nat) → Nat → (Nat → Int32) → Prop) : Prop := (w_X9_draw σ (σ.2.2 5) (fun r5 σ5 => ∀ qn11 : Nat, ∀ g16 : Nat → Int32, g16 = (upd (fun _ => 0) (Int32.toNatClampNeg 0) r5) → w_X9_draw σ5 ((σ5.2.2 5) - 1) (fun r29 σ29 => (¬ (σ29.2.2 5) = 0) ∧ ∀ g38 : Nat → Int32, g38 = (upd g16 (Int32.toNatClampNeg 1) (((r5 + 1) + r29) - ((r5 + 1) + r29) / (σ29.2.2 5) * (σ29.2.2 5))) → w_X9_draw σ29 5 (fun r43 σ43 => ∀ g46 : Nat → Int32, g46 = (upd g38 (Int32.toNatClampNeg 2) r43) → w_X9_draw σ43 (σ43.2.2 12) (fun r54 σ54 => ∀ g57 : Nat → Int32, g57 = (upd g46 (Int32.toNatClampNeg 3) r54) → w_X9_draw σ54 4 (fun r62 σ62 => ∀ g65 : Nat → Int32, g65 = (upd g57 (Int32.toNatClampNeg 4) r62) → w_X9_draw σ62 900 (fun r78 σ78 => ∀ g82 : Nat → Int32, g82 = (upd g65 (Int32.toNatClampNeg 5) (((σ62.2.2 3) + 1) + r78)) → vp_in (σ78.2.2 19) 20 ∧ ∀ (f93 : Nat → Option Nat), f93 = (va_up fR (σ78.2.2 19).toNatClampNeg (some qn11)) → w_X8_grant σ78.1 (g82 (Int32.toNatClampNeg 0)) (g82 (Int32.toNatClampNeg 1)) (g82 (Int32.toNatClampNeg 2)) (g82 (Int32.toNatClampNeg 3)) (g82 (Int32.toNatClampNeg 4)) ((g82 (Int32.toNatClampNeg 5)) - (σ78.2.2 3)) (fun r121 s121 => ((¬ r121 = ((s121, σ78.2).2.2 19)) → (Q 0 (nk_s (s121, σ78.2) 19 (((s121, σ78.2).2.2 19) + 1)) f93 qn11 g82)) ∧ ((r121 = ((s121, σ78.2).2.2 19)) → (Q 1 (nk_s (s121, σ78.2) 19 (((s121, σ78.2).2.2 19) + 1)) f93 qn11 g82))))))))))
abbrev rmX9_addGrant : Room := { frames := 3, cells := 1, slots := 6, locals := 75 }
set_option maxHeartbeats 4000000 in
set_option maxRecDepth 100000 in
theorem c_X9_addGrant (l : Launch) (D : va_G) (cI cZ cG cL : ClassId) (ad am : Nat → Nat) (q1 q2 q3 b0 L : Nat) (xs : Nat → Int32) {σ : nk_C} {fR : Nat → Option Nat} {Q : Int32 → nk_C → (Nat → Option Nat) → Nat → (Nat → Int32) → Prop} {sz : Nat} (hw : w_X9_addGrant σ fR Q) : Met l yX9_addGrant wsX9_addGrant rmX9_addGrant (nk_PcO 20 D cI cZ cG cL ad am q1 q2 q3 b0 L xs [.ref (am 0)] sz σ fR) (va_Qi (fun r (u : nk_C × (Nat → Option Nat) × Nat × (Nat → Int32)) => Q r u.1 u.2.1 u.2.2.1 u.2.2.2) (fun u t => nk_W D cI cZ cL ad am b0 u.1 t.heap ∧ nk_O D cG ad am (am 20) u.2.1 t.heap ∧ nk_D D cI ad am u.2.2.1 6 u.2.2.2 t.heap ∧ sz ≤ u.2.2.1) (nk_A1 ad am 20 sz)) 1 6 (nk_A1 ad am 20 sz) := by
  refine Met.ofW (cc := cX9_addGrant) (maxL := 3) (ret := (some .boolean)) (by decide) rfl ?_
  intro p e s m args below meth c s₁ B hml0 hv0
  obtain ⟨rfl, hsz, hW, hK, hZ, hX⟩ := hv0
  subst hsz
  have hdR : nk_O D cG ad am (am 20) fR s.heap := hX
  have C0 : gk_F p s m ([.ref (am 0)] : List Value).toArray meth c cX9_addGrant 3 (some .boolean) RX9 := ⟨B.exec, B.bytes, hml0, findClass_of_methodNamed B.named, fun w hw => atoms_spec (ws := wsX9_addGrant) B.pre w (List.mem_cons_of_mem _ hw), B.returns, B.notSynchronized⟩
  obtain ⟨hx, hb, hml, hown, hts, hr, hlocks⟩ := id C0
  have hS : va_S (nk_A1 ad am 20 s.heap.size) s.heap s.heap [] := va_S.rf
  have hl := lv_entry ([.ref (am 0)]) (n := 3) (Nat.le_of_ble_eq_true rfl)
  rw [lg_entry_eq]
  generalize (lg_sl ([.ref (am 0)]) ++ List.replicate (3 - (lg_sl ([.ref (am 0)])).length) Slot.unset).toArray = ls at hl ⊢
  have hl : lv_has ls 3 [(0, .ref (am 0))] := hl
  show W p l e rmX9_addGrant s m _ below meth c s.heap [] 0 0 _ _
  refine lv_aload_n hx hb dX9_addGrant_0 rfl (lv_at hl 0 rfl) ?_
  refine lv_aload_n hx hb dX9_addGrant_1 rfl (lv_at hl 0 rfl) ?_
  refine gk_get hx hb hts iwX9 hown hK.1 (nk_obj hW) rfl 5 (by decide) (hts _ fl_X9_82) (fun _ h9 => h9) rfl dX9_addGrant_2 ?_
  refine nk_callVi ⟨hx, hb, hml, hown, hts⟩ (c_X9_draw l D cI cZ cG cL ad am q1 q2 q3 b0 L xs hw) (cwV 1 hts (gk_gV ml_X9_78 im_X9_draw se_X9_draw in_X9 co_X9_draw) rfl rfl rfl (by decide +kernel) ⟨Nat.le_of_ble_eq_true rfl, Nat.le_of_ble_eq_true rfl⟩) (gk_recv hK.1 (nk_obj hW) rfl) hW hK hZ trivial hS (fun q h => Or.inr (nk_A.up hS.1 q h)) rfl hl.1 (rest := []) rfl (lv_room (Nat.le_of_ble_eq_true rfl)) dX9_addGrant_5 ⟨Nat.le_of_ble_eq_true rfl, Nat.le_of_ble_eq_true rfl⟩ (fun r5 σ5 H locs hw hW _ hk hS => ?_)
  have hdR := hdR.kept hk
  refine lv_istore_n (lv' := [(1, .int r5), (0, .ref (am 0))]) hx hb dX9_addGrant_8 rfl hl (by decide) rfl (fun ls hl => ?_)
  refine lv_bipush (v := 6) hx hb dX9_addGrant_9 (by decide) ?_
  refine nk_newi (N' := 6) hx hb (hts _ ac_int) hK hW hS (by decide) rfl (by decide) ⟨Nat.le_of_ble_eq_true rfl, Nat.le_of_ble_eq_true rfl⟩ dX9_addGrant_11 (fun qn11 H hdn11 hqn11 hgn11 hk hS => ?_)
  have hW := hW.keptAll hk
  have hw := hw qn11
  have hnen11 : am 20 ≠ qn11 := by have := hdR.1.lt; omega
  have hdR := hdR.keptAll hk
  refine lv_dup hx hb dX9_addGrant_13 rfl ?_
  refine lv_iconst (v := 0) hx hb dX9_addGrant_14 (by decide) ?_
  refine lv_iload_n hx hb dX9_addGrant_15 rfl (lv_at hl 0 rfl) ?_
  refine gk_iast hx hb hK.1 hS (Or.inr (Or.inr (Or.inr hgn11))) 0 hdn11.1 rfl (pk_in 0 6 (by decide)) dX9_addGrant_16 (fun H locs h1 _ oq hS => ?_)
  have hW := hW.keptN hdn11.2.1 hdn11.2.2 oq
  have hdR := hdR.oq oq hnen11
  have hdn11 : nk_D D cI ad am qn11 6 (upd (fun _ => 0) (Int32.toNatClampNeg 0) r5) H := ⟨h1, hdn11.2⟩
  obtain ⟨g16, eg16⟩ : ∃ z, z = (upd (fun _ => 0) (Int32.toNatClampNeg 0) r5) := ⟨_, rfl⟩
  rw [← eg16] at hdn11
  have hw := hw g16 eg16
  refine lv_dup hx hb dX9_addGrant_17 rfl ?_
  refine lv_iconst (v := 1) hx hb dX9_addGrant_18 (by decide) ?_
  refine lv_iload_n hx hb dX9_addGrant_19 rfl (lv_at hl 0 rfl) ?_
  refine lv_iconst (v := 1) hx hb dX9_addGrant_20 (by decide) ?_
  refine lv_iadd hx hb dX9_addGrant_21 ?_
  refine lv_aload_n hx hb dX9_addGrant_22 rfl (lv_at hl 1 rfl) ?_
  refine lv_aload_n hx hb dX9_addGrant_23 rfl (lv_at hl 1 rfl) ?_
  refine gk_get hx hb hts iwX9 hown hK.1 (nk_obj hW) rfl 5 (by decide) (hts _ fl_X9_82) (fun _ h9 => h9) rfl dX9_addGrant_24 ?_
  refine lv_iconst (v := 1) hx hb dX9_addGrant_27 (by decide) ?_
  refine lv_isub hx hb dX9_addGrant_28 ?_
  refine nk_callVi ⟨hx, hb, hml, hown, hts⟩ (c_X9_draw l D cI cZ cG cL ad am q1 q2 q3 b0 L xs hw) (cwV 1 hts (gk_gV ml_X9_78 im_X9_draw se_X9_draw in_X9 co_X9_draw) rfl rfl rfl (by decide +kernel) ⟨Nat.le_of_ble_eq_true rfl, Nat.le_of_ble_eq_true rfl⟩) (gk_recv hK.1 (nk_obj hW) rfl) hW hK hZ trivial hS (fun q h => Or.inr (nk_A.up hS.1 q h)) rfl hl.1 (rest := [.int (r5 + 1), .int 1, .ref qn11, .ref qn11]) rfl (lv_room (Nat.le_of_ble_eq_true rfl)) dX9_addGrant_29 ⟨Nat.le_of_ble_eq_true rfl, Nat.le_of_ble_eq_true rfl⟩ (fun r29 σ29 H locs hw hW _ hk hS => ?_)
  have hdR := hdR.kept hk
  have hdn11 := hdn11.kept hk
  refine lv_iadd hx hb dX9_addGrant_32 ?_
  refine lv_aload_n hx hb dX9_addGrant_33 rfl (lv_at hl 1 rfl) ?_
  refine gk_get hx hb hts iwX9 hown hK.1 (nk_obj hW) rfl 5 (by decide) (hts _ fl_X9_82) (fun _ h9 => h9) rfl dX9_addGrant_34 ?_
  obtain ⟨hne, hw⟩ := hw
  refine lv_irem hx hb dX9_addGrant_37 hne ?_
  refine gk_iast hx hb hK.1 hS (Or.inr (Or.inr (Or.inr hgn11))) 0 hdn11.1 rfl (pk_in 1 6 (by decide)) dX9_addGrant_38 (fun H locs h1 _ oq hS => ?_)
  have hW := hW.keptN hdn11.2.1 hdn11.2.2 oq
  have hdR := hdR.oq oq hnen11
  have hdn11 : nk_D D cI ad am qn11 6 (upd g16 (Int32.toNatClampNeg 1) (((r5 + 1) + r29) - ((r5 + 1) + r29) / (σ29.2.2 5) * (σ29.2.2 5))) H := ⟨h1, hdn11.2⟩
  obtain ⟨g38, eg38⟩ : ∃ z, z = (upd g16 (Int32.toNatClampNeg 1) (((r5 + 1) + r29) - ((r5 + 1) + r29) / (σ29.2.2 5) * (σ29.2.2 5))) := ⟨_, rfl⟩
  rw [← eg38] at hdn11
  have hw := hw g38 eg38
  refine lv_dup hx hb dX9_addGrant_39 rfl ?_
  refine lv_iconst (v := 2) hx hb dX9_addGrant_40 (by decide) ?_
  refine lv_aload_n hx hb dX9_addGrant_41 rfl (lv_at hl 1 rfl) ?_
  refine lv_iconst (v := 5) hx hb dX9_addGrant_42 (by decide) ?_
  refine nk_callVi ⟨hx, hb, hml, hown, hts⟩ (c_X9_draw l D cI cZ cG cL ad am q1 q2 q3 b0 L xs hw) (cwV 1 hts (gk_gV ml_X9_78 im_X9_draw se_X9_draw in_X9 co_X9_draw) rfl rfl rfl (by decide +kernel) ⟨Nat.le_of_ble_eq_true rfl, Nat.le_of_ble_eq_true rfl⟩) (gk_recv hK.1 (nk_obj hW) rfl) hW hK hZ trivial hS (fun q h => Or.inr (nk_A.up hS.1 q h)) rfl hl.1 (rest := [.int 2, .ref qn11, .ref qn11]) rfl (lv_room (Nat.le_of_ble_eq_true rfl)) dX9_addGrant_43 ⟨Nat.le_of_ble_eq_true rfl, Nat.le_of_ble_eq_true rfl⟩ (fun r43 σ43 H locs hw hW _ hk hS => ?_)
  have hdR := hdR.kept hk
  have hdn11 := hdn11.kept hk
  refine gk_iast hx hb hK.1 hS (Or.inr (Or.inr (Or.inr hgn11))) 0 hdn11.1 rfl (pk_in 2 6 (by decide)) dX9_addGrant_46 (fun H locs h1 _ oq hS => ?_)
  have hW := hW.keptN hdn11.2.1 hdn11.2.2 oq
  have hdR := hdR.oq oq hnen11
  have hdn11 : nk_D D cI ad am qn11 6 (upd g38 (Int32.toNatClampNeg 2) r43) H := ⟨h1, hdn11.2⟩
  obtain ⟨g46, eg46⟩ : ∃ z, z = (upd g38 (Int32.toNatClampNeg 2) r43) := ⟨_, rfl⟩
  rw [← eg46] at hdn11
  have hw := hw g46 eg46
  refine lv_dup hx hb dX9_addGrant_47 rfl ?_
  refine lv_iconst (v := 3) hx hb dX9_addGrant_48 (by decide) ?_
  refine lv_aload_n hx hb dX9_addGrant_49 rfl (lv_at hl 1 rfl) ?_
  refine lv_aload_n hx hb dX9_addGrant_50 rfl (lv_at hl 1 rfl) ?_
  refine gk_get hx hb hts iwX9 hown hK.1 (nk_obj hW) rfl 12 (by decide) (hts _ fl_X9_34) (fun _ h9 => h9) rfl dX9_addGrant_51 ?_
  refine nk_callVi ⟨hx, hb, hml, hown, hts⟩ (c_X9_draw l D cI cZ cG cL ad am q1 q2 q3 b0 L xs hw) (cwV 1 hts (gk_gV ml_X9_78 im_X9_draw se_X9_draw in_X9 co_X9_draw) rfl rfl rfl (by decide +kernel) ⟨Nat.le_of_ble_eq_true rfl, Nat.le_of_ble_eq_true rfl⟩) (gk_recv hK.1 (nk_obj hW) rfl) hW hK hZ trivial hS (fun q h => Or.inr (nk_A.up hS.1 q h)) rfl hl.1 (rest := [.int 3, .ref qn11, .ref qn11]) rfl (lv_room (Nat.le_of_ble_eq_true rfl)) dX9_addGrant_54 ⟨Nat.le_of_ble_eq_true rfl, Nat.le_of_ble_eq_true rfl⟩ (fun r54 σ54 H locs hw hW _ hk hS => ?_)
  have hdR := hdR.kept hk
  have hdn11 := hdn11.kept hk
  refine gk_iast hx hb hK.1 hS (Or.inr (Or.inr (Or.inr hgn11))) 0 hdn11.1 rfl (pk_in 3 6 (by decide)) dX9_addGrant_57 (fun H locs h1 _ oq hS => ?_)
  have hW := hW.keptN hdn11.2.1 hdn11.2.2 oq
  have hdR := hdR.oq oq hnen11
  have hdn11 : nk_D D cI ad am qn11 6 (upd g46 (Int32.toNatClampNeg 3) r54) H := ⟨h1, hdn11.2⟩
  obtain ⟨g57, eg57⟩ : ∃ z, z = (upd g46 (Int32.toNatClampNeg 3) r54) := ⟨_, rfl⟩
  rw [← eg57] at hdn11
  have hw := hw g57 eg57
  refine lv_dup hx hb dX9_addGrant_58 rfl ?_
  refine lv_iconst (v := 4) hx hb dX9_addGrant_59 (by decide) ?_
  refine lv_aload_n hx hb dX9_addGrant_60 rfl (lv_at hl 1 rfl) ?_
  refine lv_iconst (v := 4) hx hb dX9_addGrant_61 (by decide) ?_
  refine nk_callVi ⟨hx, hb, hml, hown, hts⟩ (c_X9_draw l D cI cZ cG cL ad am q1 q2 q3 b0 L xs hw) (cwV 1 hts (gk_gV ml_X9_78 im_X9_draw se_X9_draw in_X9 co_X9_draw) rfl rfl rfl (by decide +kernel) ⟨Nat.le_of_ble_eq_true rfl, Nat.le_of_ble_eq_true rfl⟩) (gk_recv hK.1 (nk_obj hW) rfl) hW hK hZ trivial hS (fun q h => Or.inr (nk_A.up hS.1 q h)) rfl hl.1 (rest := [.int 4, .ref qn11, .ref qn11]) rfl (lv_room (Nat.le_of_ble_eq_true rfl)) dX9_addGrant_62 ⟨Nat.le_of_ble_eq_true rfl, Nat.le_of_ble_eq_true rfl⟩ (fun r62 σ62 H locs hw hW _ hk hS => ?_)
  have hdR := hdR.kept hk
  have hdn11 := hdn11.kept hk
  refine gk_iast hx hb hK.1 hS (Or.inr (Or.inr (Or.inr hgn11))) 0 hdn11.1 rfl (pk_in 4 6 (by decide)) dX9_addGrant_65 (fun H locs h1 _ oq hS => ?_)
  have hW := hW.keptN hdn11.2.1 hdn11.2.2 oq
  have hdR := hdR.oq oq hnen11
  have hdn11 : nk_D D cI ad am qn11 6 (upd g57 (Int32.toNatClampNeg 4) r62) H := ⟨h1, hdn11.2⟩
  obtain ⟨g65, eg65⟩ : ∃ z, z = (upd g57 (Int32.toNatClampNeg 4) r62) := ⟨_, rfl⟩
  rw [← eg65] at hdn11
  have hw := hw g65 eg65
  refine lv_dup hx hb dX9_addGrant_66 rfl ?_
  refine lv_iconst (v := 5) hx hb dX9_addGrant_67 (by decide) ?_
  refine lv_aload_n hx hb dX9_addGrant_68 rfl (lv_at hl 1 rfl) ?_
  refine gk_get hx hb hts iwX9 hown hK.1 (nk_obj hW) rfl 3 (by decide) (hts _ fl_X9_163) (fun _ h9 => h9) rfl dX9_addGrant_69 ?_
  refine lv_iconst (v := 1) hx hb dX9_addGrant_72 (by decide) ?_
  refine lv_iadd hx hb dX9_addGrant_73 ?_
  refine lv_aload_n hx hb dX9_addGrant_74 rfl (lv_at hl 1 rfl) ?_
  refine lv_sipush (v := 900) hx hb dX9_addGrant_75 (by decide) ?_
  refine nk_callVi ⟨hx, hb, hml, hown, hts⟩ (c_X9_draw l D cI cZ cG cL ad am q1 q2 q3 b0 L xs hw) (cwV 1 hts (gk_gV ml_X9_78 im_X9_draw se_X9_draw in_X9 co_X9_draw) rfl rfl rfl (by decide +kernel) ⟨Nat.le_of_ble_eq_true rfl, Nat.le_of_ble_eq_true rfl⟩) (gk_recv hK.1 (nk_obj hW) rfl) hW hK hZ trivial hS (fun q h => Or.inr (nk_A.up hS.1 q h)) rfl hl.1 (rest := [.int ((σ62.2.2 3) + 1), .int 5, .ref qn11, .ref qn11]) rfl (lv_room (Nat.le_of_ble_eq_true rfl)) dX9_addGrant_78 ⟨Nat.le_of_ble_eq_true rfl, Nat.le_of_ble_eq_true rfl⟩ (fun r78 σ78 H locs hw hW _ hk hS => ?_)
  have hdR := hdR.kept hk
  have hdn11 := hdn11.kept hk
  refine lv_iadd hx hb dX9_addGrant_81 ?_
  refine gk_iast hx hb hK.1 hS (Or.inr (Or.inr (Or.inr hgn11))) 0 hdn11.1 rfl (pk_in 5 6 (by decide)) dX9_addGrant_82 (fun H locs h1 _ oq hS => ?_)
  have hW := hW.keptN hdn11.2.1 hdn11.2.2 oq
  have hdR := hdR.oq oq hnen11
  have hdn11 : nk_D D cI ad am qn11 6 (upd g65 (Int32.toNatClampNeg 5) (((σ62.2.2 3) + 1) + r78)) H := ⟨h1, hdn11.2⟩
  obtain ⟨g82, eg82⟩ : ∃ z, z = (upd g65 (Int32.toNatClampNeg 5) (((σ62.2.2 3) + 1) + r78)) := ⟨_, rfl⟩
  rw [← eg82] at hdn11
  have hw := hw g82 eg82
  refine lv_astore_n (lv' := [(2, .ref qn11), (1, .int r5), (0, .ref (am 0))]) hx hb dX9_addGrant_83 rfl hl (by decide) rfl (fun ls hl => ?_)
  refine lv_aload_n hx hb dX9_addGrant_84 rfl (lv_at hl 2 rfl) ?_
  refine gk_get hx hb hts iwX9 hown hK.1 (nk_obj hW) rfl 20 (by decide) (hts _ fl_X9_55) (fun _ h9 => h9) rfl dX9_addGrant_85 ?_
  refine lv_aload_n hx hb dX9_addGrant_88 rfl (lv_at hl 2 rfl) ?_
  refine gk_get hx hb hts iwX9 hown hK.1 (nk_obj hW) rfl 19 (by decide) (hts _ fl_X9_184) (fun _ h9 => h9) rfl dX9_addGrant_89 ?_
  refine lv_aload_n hx hb dX9_addGrant_92 rfl (lv_at hl 0 rfl) ?_
  obtain ⟨hin, hw⟩ := hw
  refine nk_astg hx hb hK hS (Or.inl rfl) hdR.1 hdn11.1 hin dX9_addGrant_93 (fun H locs h1 oq hz hS => ?_)
  have hW := hW.keptN hdR.2.1 hdR.2.2 oq
  have hdn11 := hdn11.oq oq (Ne.symm hnen11)
  have hdR : nk_O D cG ad am (am 20) (va_up fR (σ78.2.2 19).toNatClampNeg (some qn11)) H := ⟨h1, hdR.2⟩
  obtain ⟨f93, ef93⟩ : ∃ z, z = (va_up fR (σ78.2.2 19).toNatClampNeg (some qn11)) := ⟨_, rfl⟩
  rw [← ef93] at hdR
  have hw := hw f93 ef93
  refine lv_aload_n hx hb dX9_addGrant_94 rfl (lv_at hl 2 rfl) ?_
  refine gk_get hx hb hts iwX9 hown hK.1 (nk_obj hW) rfl 0 (by decide) (hts _ fl_X9_10) (fun _ h9 => h9) rfl dX9_addGrant_95 ?_
  refine lv_aload_n hx hb dX9_addGrant_98 rfl (lv_at hl 0 rfl) ?_
  refine lv_iconst (v := 0) hx hb dX9_addGrant_99 (by decide) ?_
  refine gk_iald hx hb hK.1 0 hdn11.1 rfl (pk_in 0 6 (by decide)) dX9_addGrant_100 ?_
  refine lv_aload_n hx hb dX9_addGrant_101 rfl (lv_at hl 0 rfl) ?_
  refine lv_iconst (v := 1) hx hb dX9_addGrant_102 (by decide) ?_
  refine gk_iald hx hb hK.1 0 hdn11.1 rfl (pk_in 1 6 (by decide)) dX9_addGrant_103 ?_
  refine lv_aload_n hx hb dX9_addGrant_104 rfl (lv_at hl 0 rfl) ?_
  refine lv_iconst (v := 2) hx hb dX9_addGrant_105 (by decide) ?_
  refine gk_iald hx hb hK.1 0 hdn11.1 rfl (pk_in 2 6 (by decide)) dX9_addGrant_106 ?_
  refine lv_aload_n hx hb dX9_addGrant_107 rfl (lv_at hl 0 rfl) ?_
  refine lv_iconst (v := 3) hx hb dX9_addGrant_108 (by decide) ?_
  refine gk_iald hx hb hK.1 0 hdn11.1 rfl (pk_in 3 6 (by decide)) dX9_addGrant_109 ?_
  refine lv_aload_n hx hb dX9_addGrant_110 rfl (lv_at hl 0 rfl) ?_
  refine lv_iconst (v := 4) hx hb dX9_addGrant_111 (by decide) ?_
  refine gk_iald hx hb hK.1 0 hdn11.1 rfl (pk_in 4 6 (by decide)) dX9_addGrant_112 ?_
  refine lv_aload_n hx hb dX9_addGrant_113 rfl (lv_at hl 0 rfl) ?_
  refine lv_iconst (v := 5) hx hb dX9_addGrant_114 (by decide) ?_
  refine gk_iald hx hb hK.1 0 hdn11.1 rfl (pk_in 5 6 (by decide)) dX9_addGrant_115 ?_
  refine lv_aload_n hx hb dX9_addGrant_116 rfl (lv_at hl 2 rfl) ?_
  refine gk_get hx hb hts iwX9 hown hK.1 (nk_obj hW) rfl 3 (by decide) (hts _ fl_X9_163) (fun _ h9 => h9) rfl dX9_addGrant_117 ?_
  refine lv_isub hx hb dX9_addGrant_120 ?_
  refine nk_gVi ⟨hx, hb, hml, hown, hts⟩ (c_X8_grant l D cI cZ cG cL ad hw) (cwV 6 hts (gk_gV ml_X9_193 im_X8_grant se_X8_grant in_X8 co_X8_grant) rfl rfl rfl (by decide +kernel) ⟨Nat.le_of_ble_eq_true rfl, Nat.le_of_ble_eq_true rfl⟩) (gk_recv hK.1 (gk_o0 hW.1) rfl) hW hK hS (fun q h => Or.inr (nk_A.up hS.1 q h)) rfl hl.1 (rest := []) rfl (lv_room (Nat.le_of_ble_eq_true rfl)) dX9_addGrant_121 ⟨Nat.le_of_ble_eq_true rfl, Nat.le_of_ble_eq_true rfl⟩ (fun r121 s121 H locs hw hW _ hk hS => ?_)
  have hdR := hdR.gate hk
  have hdn11 := hdn11.gate hk
  refine lv_aload_n hx hb dX9_addGrant_124 rfl (lv_at hl 2 rfl) ?_
  refine lv_dup hx hb dX9_addGrant_125 rfl ?_
  refine gk_get hx hb hts iwX9 hown hK.1 (nk_obj hW) rfl 19 (by decide) (hts _ fl_X9_184) (fun _ h9 => h9) rfl dX9_addGrant_126 ?_
  refine lv_dup_x1 hx hb dX9_addGrant_129 rfl rfl ?_
  refine lv_iconst (v := 1) hx hb dX9_addGrant_130 (by decide) ?_
  refine lv_iadd hx hb dX9_addGrant_131 ?_
  refine gk_putf (ty := .int) (v := .int (((s121, σ78.2).2.2 19) + 1)) hx hb hts iwX9 tyX9 tyX9_ok nmX9 hown hK.1 hS (Or.inr (nk_A.in (by decide))) (nk_obj hW) rfl 19 (by decide) (hts _ fl_X9_184) (fun _ h9 => h9) rfl (by decide +kernel) rfl rfl (Nat.le_of_ble_eq_true rfl) dX9_addGrant_132 (fun H locs h1 _ oq hS => ?_)
  have hW := hW.setS (i := 19) (v := (((s121, σ78.2).2.2 19) + 1)) h1 oq
  have hdR := hdR.oqS (k := 0) (by decide) oq
  have hdn11 := hdn11.oqS (k := 0) (by decide) oq
  refine lv_icmp_ne (tgt := 142) hx hb dX9_addGrant_135 (by decide) (fun c135 => ?_) (fun c135 => ?_)
  · have hw := hw.1 c135
    refine lv_iconst (v := 0) hx hb dX9_addGrant_142 (by decide) ?_
    refine W.widen (k := 1) (n := 6) (Nat.le_of_ble_eq_true rfl) (Nat.le_of_ble_eq_true rfl) ?_
    exact nk_reto C0 (by decide) (u := ((nk_s (s121, σ78.2) 19 (((s121, σ78.2).2.2 19) + 1)), f93, qn11, g82)) hw hW hdR hdn11 hgn11 hS dX9_addGrant_143
  · have hw := hw.2 c135
    refine lv_iconst (v := 1) hx hb dX9_addGrant_138 (by decide) ?_
    refine lv_goto (tgt := 143) hx hb dX9_addGrant_139 (by decide) ?_
    refine W.widen (k := 1) (n := 6) (Nat.le_of_ble_eq_true rfl) (Nat.le_of_ble_eq_true rfl) ?_
    exact nk_reto C0 (by decide) (u := ((nk_s (s121, σ78.2) 19 (((s121, σ78.2).2.2 19) + 1)), f93, qn11, g82)) hw hW hdR hdn11 hgn11 hS dX9_addGrant_143
