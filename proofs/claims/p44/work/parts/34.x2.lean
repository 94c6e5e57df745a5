/-! laid by wip/p44/classx.py: wp predicates and walks -/
def wJ_X9_bind_307 (k312 : nk_C → Int32 → Int32 → Int32 → Int32 → Prop) (σ : nk_C) (x2 : Int32) (x3 : Int32) (x6 : Int32) (x7 : Int32) : Prop := (k312 σ x2 x3 x6 1)
def wJ_X9_bind_424 (k397 : nk_C → Int32 → Int32 → Int32 → Int32 → Int32 → Int32 → Int32 → Prop) (σ : nk_C) (x2 : Int32) (x3 : Int32) (x6 : Int32) (x7 : Int32) (x9 : Int32) (x10 : Int32) (t0 : Int32) (t1 : Int32) : Prop := (k397 σ x2 x3 x6 x7 (t0 + t1) x9 (x10 + 1))
def wL_X9_bind_397 (k433 : nk_C → Int32 → Int32 → Int32 → Int32 → Int32 → Int32 → Prop) : Nat → nk_C → Int32 → Int32 → Int32 → Int32 → Int32 → Int32 → Int32 → Prop
  | 0 => fun _ _ _ _ _ _ _ _ => False
  | n + 1 => fun σ x2 x3 x6 x7 x8 x9 x10 => (((x9 ≤ x10) → (k433 σ x2 x3 x6 x7 x8 x9)) ∧ ((¬ x9 ≤ x10) → (vp_in x9 5 ∧ vp_in x10 5 ∧ (((σ.2.1 (31 + x9.toNatClampNeg) x10.toNatClampNeg) = 0) → (wJ_X9_bind_424 (fun σ x2 x3 x6 x7 x8 x9 x10 => wL_X9_bind_397 k433 n σ x2 x3 x6 x7 x8 x9 x10) σ x2 x3 x6 x7 x9 x10 x8 0)) ∧ ((¬ (σ.2.1 (31 + x9.toNatClampNeg) x10.toNatClampNeg) = 0) → (wJ_X9_bind_424 (fun σ x2 x3 x6 x7 x8 x9 x10 => wL_X9_bind_397 k433 n σ x2 x3 x6 x7 x8 x9 x10) σ x2 x3 x6 x7 x9 x10 x8 1)))))
def wL_X9_bind_385 (k439 : nk_C → Int32 → Int32 → Int32 → Int32 → Int32 → Prop) : Nat → nk_C → Int32 → Int32 → Int32 → Int32 → Int32 → Int32 → Prop
  | 0 => fun _ _ _ _ _ _ _ => False
  | n + 1 => fun σ x2 x3 x6 x7 x8 x9 => ((((σ.2.2 9) ≤ x9) → (k439 σ x2 x3 x6 x7 x8)) ∧ ((¬ (σ.2.2 9) ≤ x9) → (∃ n397, wL_X9_bind_397 (fun σ x2 x3 x6 x7 x8 x9 => (wL_X9_bind_385 k439 n σ x2 x3 x6 x7 x8 (x9 + 1))) n397 σ x2 x3 x6 x7 x8 x9 0)))
def wJ_X9_bind_379 (Q : Int32 → nk_C → Prop) (σ : nk_C) (x2 : Int32) (x3 : Int32) (x6 : Int32) (x7 : Int32) : Prop := (∃ n385, wL_X9_bind_385 (fun σ x2 x3 x6 x7 x8 => (w_X8_setApart σ.1 x2 x3 (fun E s445 => (E = gk_E2 ∧ (gk_z x6 ∧ Q x6 (s445, σ.2))) ∨ (E = gk_E3 ∧ (((x7 = 0) → (Q 0 (s445, σ.2))) ∧ ((¬ x7 = 0) → (((¬ x6 = 0) → (Q 0 (s445, σ.2))) ∧ ((x6 = 0) → (Q 1 (s445, σ.2)))))))) (fun r445 s445 => (((¬ r445 = x8) → (Q 0 (s445, σ.2))) ∧ ((r445 = x8) → (((¬ x7 = 0) → (Q 0 (s445, σ.2))) ∧ ((x7 = 0) → (Q 1 (s445, σ.2))))))))) n385 σ x2 x3 x6 x7 0 0)
def wJ_X9_bind_312 (Q : Int32 → nk_C → Prop) (σ : nk_C) (x2 : Int32) (x3 : Int32) (x6 : Int32) (t0 : Int32) : Prop := (((¬ t0 = 0) → (wJ_X9_bind_379 Q σ x2 x3 x6 t0)) ∧ ((t0 = 0) → (vp_in x2 5 ∧ vp_in x3 5 ∧ ∀ σ327 : nk_C, σ327 = nk_st σ (31 + x2.toNatClampNeg) x3 (vp_nar .boolean 1) → vp_in x3 5 ∧ vp_in x2 5 ∧ ∀ σ336 : nk_C, σ336 = nk_st σ327 (31 + x3.toNatClampNeg) x2 (vp_nar .boolean 1) → w_X9_anyApart σ336 (fun r338 => vp_in x2 5 ∧ ((¬ r338 = 0) → (vp_in x3 5 ∧ ∀ σ360 : nk_C, σ360 = nk_st σ336 (31 + x2.toNatClampNeg) x3 (vp_nar .boolean 0) → vp_in x3 5 ∧ ((¬ r338 = 0) → (vp_in x2 5 ∧ ∀ σ378 : nk_C, σ378 = nk_st σ360 (31 + x3.toNatClampNeg) x2 (vp_nar .boolean 0) → wJ_X9_bind_379 Q σ378 x2 x3 x6 r338)) ∧ ((r338 = 0) → (vp_in x2 5 ∧ ∀ σ378 : nk_C, σ378 = nk_st σ360 (31 + x3.toNatClampNeg) x2 (vp_nar .boolean 1) → wJ_X9_bind_379 Q σ378 x2 x3 x6 r338)))) ∧ ((r338 = 0) → (vp_in x3 5 ∧ ∀ σ360 : nk_C, σ360 = nk_st σ336 (31 + x2.toNatClampNeg) x3 (vp_nar .boolean 1) → vp_in x3 5 ∧ ((¬ r338 = 0) → (vp_in x2 5 ∧ ∀ σ378 : nk_C, σ378 = nk_st σ360 (31 + x3.toNatClampNeg) x2 (vp_nar .boolean 0) → wJ_X9_bind_379 Q σ378 x2 x3 x6 r338)) ∧ ((r338 = 0) → (vp_in x2 5 ∧ ∀ σ378 : nk_C, σ378 = nk_st σ360 (31 + x3.toNatClampNeg) x2 (vp_nar .boolean 1) → wJ_X9_bind_379 Q σ378 x2 x3 x6 r338))))))))
def wJ_X9_bind_289 (Q : Int32 → nk_C → Prop) (σ : nk_C) (x2 : Int32) (x3 : Int32) (x7 : Int32) (t0 : Int32) : Prop := (((¬ t0 = 0) → (wJ_X9_bind_307 (fun σ x2 x3 x6 t0 => (wJ_X9_bind_312 Q σ x2 x3 x6 t0)) σ x2 x3 t0 x7)) ∧ ((t0 = 0) → (vp_in x2 5 ∧ vp_in x3 5 ∧ (((σ.2.1 (31 + x2.toNatClampNeg) x3.toNatClampNeg) = 0) → (wJ_X9_bind_312 Q σ x2 x3 t0 0)) ∧ ((¬ (σ.2.1 (31 + x2.toNatClampNeg) x3.toNatClampNeg) = 0) → (wJ_X9_bind_307 (fun σ x2 x3 x6 t0 => (wJ_X9_bind_312 Q σ x2 x3 x6 t0)) σ x2 x3 t0 x7)))))
def wJ_X9_bind_176 (k181 : nk_C → Int32 → Int32 → Int32 → Int32 → Int32 → Prop) (σ : nk_C) (x2 : Int32) (x3 : Int32) (x4 : Int32) (x6 : Int32) (x7 : Int32) : Prop := (k181 σ x2 x3 x4 x7 1)
def wJ_X9_bind_229 (k230 : nk_C → Int32 → Int32 → Int32 → Int32 → Int32 → Int32 → Prop) (σ : nk_C) (x2 : Int32) (x3 : Int32) (x4 : Int32) (x6 : Int32) (x7 : Int32) (x8 : Int32) : Prop := (k230 σ x2 x3 x4 x6 x8 0)
def wJ_X9_bind_247 (Q : Int32 → nk_C → Prop) (σ : nk_C) (x2 : Int32) (x3 : Int32) (x4 : Int32) (x6 : Int32) (x7 : Int32) (x8 : Int32) : Prop := (w_X8_setHolds σ.1 x2 x3 x4 (fun E s255 => (E = gk_E2 ∧ (gk_z x6 ∧ Q x6 (s255, σ.2))) ∨ (E = gk_E3 ∧ (((x7 = 0) → (Q 0 (s255, σ.2))) ∧ ((¬ x7 = 0) → (((¬ x6 = 0) → (Q 0 (s255, σ.2))) ∧ ((x6 = 0) → (Q 1 (s255, σ.2)))))))) (fun r255 s255 => (((¬ r255 = x8) → (Q 0 (s255, σ.2))) ∧ ((r255 = x8) → (((¬ x6 = 0) → (Q 0 (s255, σ.2))) ∧ ((x6 = 0) → (((¬ x7 = 0) → (Q 0 (s255, σ.2))) ∧ ((x7 = 0) → (Q 1 (s255, σ.2))))))))))
def wJ_X9_bind_230 (Q : Int32 → nk_C → Prop) (σ : nk_C) (x2 : Int32) (x3 : Int32) (x4 : Int32) (x6 : Int32) (x8 : Int32) (t0 : Int32) : Prop := (((t0 = 0) → (wJ_X9_bind_247 Q σ x2 x3 x4 x6 t0 x8)) ∧ ((¬ t0 = 0) → (vp_in x2 5 ∧ vp_in x3 5 ∧ ∀ σ246 : nk_C, σ246 = nk_st σ (26 + x2.toNatClampNeg) x3 (vp_nar .boolean x8) → wJ_X9_bind_247 Q σ246 x2 x3 x4 x6 t0 x8)))
def wJ_X9_bind_208 (Q : Int32 → nk_C → Prop) (σ : nk_C) (x2 : Int32) (x3 : Int32) (x4 : Int32) (x6 : Int32) (x7 : Int32) (x8 : Int32) : Prop := (((¬ x6 = 0) → (wJ_X9_bind_229 (fun σ x2 x3 x4 x6 x8 t0 => (wJ_X9_bind_230 Q σ x2 x3 x4 x6 x8 t0)) σ x2 x3 x4 x6 x7 x8)) ∧ ((x6 = 0) → (((x4 = 0) → (wJ_X9_bind_229 (fun σ x2 x3 x4 x6 x8 t0 => (wJ_X9_bind_230 Q σ x2 x3 x4 x6 x8 t0)) σ x2 x3 x4 x6 x7 x8)) ∧ ((¬ x4 = 0) → (w_X9_anyApart σ (fun r219 => ((r219 = 0) → (wJ_X9_bind_229 (fun σ x2 x3 x4 x6 x8 t0 => (wJ_X9_bind_230 Q σ x2 x3 x4 x6 x8 t0)) σ x2 x3 x4 x6 x7 x8)) ∧ ((¬ r219 = 0) → (wJ_X9_bind_230 Q σ x2 x3 x4 x6 x8 1))))))))
def wJ_X9_bind_181 (Q : Int32 → nk_C → Prop) (σ : nk_C) (x2 : Int32) (x3 : Int32) (x4 : Int32) (x7 : Int32) (t0 : Int32) : Prop := (vp_in x2 5 ∧ vp_in x3 5 ∧ ((¬ t0 = 0) → (wJ_X9_bind_208 Q σ x2 x3 x4 t0 x7 (σ.2.1 (26 + x2.toNatClampNeg) x3.toNatClampNeg))) ∧ ((t0 = 0) → (vp_in x2 5 ∧ vp_in x3 5 ∧ ∀ σ207 : nk_C, σ207 = nk_st σ (26 + x2.toNatClampNeg) x3 (vp_nar .boolean x4) → wJ_X9_bind_208 Q σ207 x2 x3 x4 t0 x7 (σ.2.1 (26 + x2.toNatClampNeg) x3.toNatClampNeg))))
def wJ_X9_bind_180 (k181 : nk_C → Int32 → Int32 → Int32 → Int32 → Int32 → Prop) (σ : nk_C) (x2 : Int32) (x3 : Int32) (x4 : Int32) (x6 : Int32) (x7 : Int32) : Prop := (k181 σ x2 x3 x4 x7 0)
def wJ_X9_bind_104 (k105 : nk_C → Int32 → Int32 → Int32 → Int32 → Int32 → Int32 → Prop) (σ : nk_C) (x1 : Int32) (x2 : Int32) (x4 : Int32) (x6 : Int32) (x7 : Int32) (x8 : Int32) : Prop := (k105 σ x1 x2 x4 x6 x8 0)
def wJ_X9_bind_122 (Q : Int32 → nk_C → Prop) (σ : nk_C) (x1 : Int32) (x2 : Int32) (x4 : Int32) (x6 : Int32) (x7 : Int32) (x8 : Int32) : Prop := (w_X8_setRole σ.1 x1 x2 x4 (fun E s130 => (E = gk_E2 ∧ (gk_z x6 ∧ Q x6 (s130, σ.2))) ∨ (E = gk_E3 ∧ (((x7 = 0) → (Q 0 (s130, σ.2))) ∧ ((¬ x7 = 0) → (((¬ x6 = 0) → (Q 0 (s130, σ.2))) ∧ ((x6 = 0) → (Q 1 (s130, σ.2)))))))) (fun r130 s130 => (((¬ r130 = x8) → (Q 0 (s130, σ.2))) ∧ ((r130 = x8) → (((¬ x7 = 0) → (Q 0 (s130, σ.2))) ∧ ((x7 = 0) → (Q 1 (s130, σ.2))))))))
def wJ_X9_bind_105 (Q : Int32 → nk_C → Prop) (σ : nk_C) (x1 : Int32) (x2 : Int32) (x4 : Int32) (x6 : Int32) (x8 : Int32) (t0 : Int32) : Prop := (((t0 = 0) → (wJ_X9_bind_122 Q σ x1 x2 x4 x6 t0 x8)) ∧ ((¬ t0 = 0) → (vp_in x1 4 ∧ vp_in x2 5 ∧ ∀ σ121 : nk_C, σ121 = nk_st σ (22 + x1.toNatClampNeg) x2 (vp_nar .boolean x8) → wJ_X9_bind_122 Q σ121 x1 x2 x4 x6 t0 x8)))
def wJ_X9_bind_40 (Q : Int32 → nk_C → Prop) (σ : nk_C) (x1 : Int32) (x2 : Int32) (x3 : Int32) (t0 : Int32) : Prop := (w_X9_draw σ 6 (fun r45 σ45 => ((3 ≤ r45) → (((5 ≤ r45) → (((¬ x2 = x3) → (wJ_X9_bind_289 Q σ45 x2 x3 0 0)) ∧ ((x2 = x3) → (wJ_X9_bind_289 Q σ45 x2 x3 0 1)))) ∧ ((¬ 5 ≤ r45) → (((x2 = x3) → (wJ_X9_bind_176 (fun σ x2 x3 x4 x7 t0 => (wJ_X9_bind_181 Q σ x2 x3 x4 x7 t0)) σ45 x2 x3 t0 0 0)) ∧ ((¬ x2 = x3) → (((t0 = 0) → (wJ_X9_bind_180 (fun σ x2 x3 x4 x7 t0 => (wJ_X9_bind_181 Q σ x2 x3 x4 x7 t0)) σ45 x2 x3 t0 0 0)) ∧ ((¬ t0 = 0) → (wd_X9_isHeld 7 σ45 x3 x2 6 (fun r170 => ((r170 = 0) → (wJ_X9_bind_180 (fun σ x2 x3 x4 x7 t0 => (wJ_X9_bind_181 Q σ x2 x3 x4 x7 t0)) σ45 x2 x3 t0 0 0)) ∧ ((¬ r170 = 0) → (wJ_X9_bind_176 (fun σ x2 x3 x4 x7 t0 => (wJ_X9_bind_181 Q σ x2 x3 x4 x7 t0)) σ45 x2 x3 t0 0 0))))))))))) ∧ ((¬ 3 ≤ r45) → (vp_in x1 4 ∧ vp_in x2 5 ∧ vp_in x1 4 ∧ vp_in x2 5 ∧ ∀ σ81 : nk_C, σ81 = nk_st σ45 (22 + x1.toNatClampNeg) x2 (vp_nar .boolean t0) → ((t0 = 0) → (wJ_X9_bind_104 (fun σ x1 x2 x4 x6 x8 t0 => (wJ_X9_bind_105 Q σ x1 x2 x4 x6 x8 t0)) σ81 x1 x2 t0 0 0 (σ45.2.1 (22 + x1.toNatClampNeg) x2.toNatClampNeg))) ∧ ((¬ t0 = 0) → (vp_in x1 4 ∧ w_X9_hasApart σ81 (22 + x1.toNatClampNeg) (fun r94 => ((r94 = 0) → (wJ_X9_bind_104 (fun σ x1 x2 x4 x6 x8 t0 => (wJ_X9_bind_105 Q σ x1 x2 x4 x6 x8 t0)) σ81 x1 x2 t0 0 0 (σ45.2.1 (22 + x1.toNatClampNeg) x2.toNatClampNeg))) ∧ ((¬ r94 = 0) → (wJ_X9_bind_105 Q σ81 x1 x2 t0 0 (σ45.2.1 (22 + x1.toNatClampNeg) x2.toNatClampNeg) 1)))))))))
def w_X9_bind (σ : nk_C)  (Q : Int32 → nk_C → Prop) : Prop := (w_X9_draw σ (σ.2.2 5) (fun r5 σ5 => w_X9_draw σ5 (σ5.2.2 9) (fun r14 σ14 => w_X9_draw σ14 (σ14.2.2 9) (fun r23 σ23 => w_X9_draw σ23 4 (fun r29 σ29 => ((r29 ≤ 0) → (wJ_X9_bind_40 Q σ29 r5 r14 r23 0)) ∧ ((¬ r29 ≤ 0) → (wJ_X9_bind_40 Q σ29 r5 r14 r23 1)))))))
abbrev rmX9_bind : Room := { frames := 10, cells := 3, slots := 18, locals := 349 }
set_option maxHeartbeats 4000000 in
set_option maxRecDepth 100000 in
theorem tJ_X9_bind_307 {p : Program} {l : Launch} {e : Env} {s : State} {m : MethodId} {args : Array Value} {below : List Frame} {meth : Method} {c : Code} {D : va_G} {cI cZ cG cL : ClassId} {ad am : Nat → Nat} {q1 q2 q3 b0 L : Nat} {xs : Nat → Int32} (C0 : gk_F p s m args meth c cX9_bind 11 (some .boolean) RX9) (hK : gk_K D cI cZ cG cL s) (hZ : nk_Z q1 q2 q3 b0 L xs (nk_A ad am s.heap.size) s s.heap) (htab : c.exceptionTable.toList = tableOf [(56, 148, 464, 138), (149, 278, 464, 138), (279, 463, 464, 138), (56, 148, 469, 140), (149, 278, 469, 140), (279, 463, 469, 140)]) (hfl : l.stackTraces = false) {Q : Int32 → nk_C → Prop} {k312 : nk_C → Int32 → Int32 → Int32 → Int32 → Prop} (hk312 : ∀ (σ : nk_C) (x2 : Int32) (x3 : Int32) (x6 : Int32) (t0 : Int32), k312 σ x2 x3 x6 t0 → ∀ (H : Heap) (locs : List Loc), nk_W D cI cZ cL ad am b0 σ H → va_S (nk_A ad am s.heap.size) s.heap H locs → ∀ (ls : Array Slot), lv_has ls 11 [(0, .ref (am 0)), (2, .int x2), (3, .int x3), (6, .int x6)] → W p l e rmX9_bind s m args below meth c H locs 0 0 (vx_MQ below (va_Qi (fun r u => Q r u) (nk_B D cI cZ cL ad am b0) (nk_A ad am s.heap.size)) nk_XF args s 3 18 (nk_A ad am s.heap.size)) (F0 m 312 ls [.int t0])) : ∀ (σ : nk_C) (x2 : Int32) (x3 : Int32) (x6 : Int32) (x7 : Int32), wJ_X9_bind_307 k312 σ x2 x3 x6 x7 → ∀ (H : Heap) (locs : List Loc), nk_W D cI cZ cL ad am b0 σ H → va_S (nk_A ad am s.heap.size) s.heap H locs → ∀ (ls : Array Slot), lv_has ls 11 [(0, .ref (am 0)), (2, .int x2), (3, .int x3), (6, .int x6), (7, .int x7)] → W p l e rmX9_bind s m args below meth c H locs 0 0 (vx_MQ below (va_Qi (fun r u => Q r u) (nk_B D cI cZ cL ad am b0) (nk_A ad am s.heap.size)) nk_XF args s 3 18 (nk_A ad am s.heap.size)) (F0 m 307 ls []) := by
  obtain ⟨hx, hb, hml, hown, hts, hr, hlocks⟩ := id C0
  intro σ x2 x3 x6 x7 hw H locs hW hS  ls hl
  refine lv_iconst (v := 1) hx hb dX9_bind_307 (by decide) ?_
  refine lv_goto (tgt := 312) hx hb dX9_bind_308 (by decide) ?_
  exact hk312 σ x2 x3 x6 1 hw _ _ hW hS  _ (lv_sub hl [0, 1, 2, 3] rfl)
set_option maxHeartbeats 4000000 in
set_option maxRecDepth 100000 in
theorem tJ_X9_bind_424 {p : Program} {l : Launch} {e : Env} {s : State} {m : MethodId} {args : Array Value} {below : List Frame} {meth : Method} {c : Code} {D : va_G} {cI cZ cG cL : ClassId} {ad am : Nat → Nat} {q1 q2 q3 b0 L : Nat} {xs : Nat → Int32} (C0 : gk_F p s m args meth c cX9_bind 11 (some .boolean) RX9) (hK : gk_K D cI cZ cG cL s) (hZ : nk_Z q1 q2 q3 b0 L xs (nk_A ad am s.heap.size) s s.heap) (htab : c.exceptionTable.toList = tableOf [(56, 148, 464, 138), (149, 278, 464, 138), (279, 463, 464, 138), (56, 148, 469, 140), (149, 278, 469, 140), (279, 463, 469, 140)]) (hfl : l.stackTraces = false) {Q : Int32 → nk_C → Prop} {k397 : nk_C → Int32 → Int32 → Int32 → Int32 → Int32 → Int32 → Int32 → Prop} (hk397 : ∀ (σ : nk_C) (x2 : Int32) (x3 : Int32) (x6 : Int32) (x7 : Int32) (x8 : Int32) (x9 : Int32) (x10 : Int32), k397 σ x2 x3 x6 x7 x8 x9 x10 → ∀ (H : Heap) (locs : List Loc), nk_W D cI cZ cL ad am b0 σ H → va_S (nk_A ad am s.heap.size) s.heap H locs → ∀ (ls : Array Slot), lv_has ls 11 [(0, .ref (am 0)), (2, .int x2), (3, .int x3), (6, .int x6), (7, .int x7), (8, .int x8), (9, .int x9), (10, .int x10)] → W p l e rmX9_bind s m args below meth c H locs 0 0 (vx_MQ below (va_Qi (fun r u => Q r u) (nk_B D cI cZ cL ad am b0) (nk_A ad am s.heap.size)) nk_XF args s 3 18 (nk_A ad am s.heap.size)) (F0 m 397 ls [])) : ∀ (σ : nk_C) (x2 : Int32) (x3 : Int32) (x6 : Int32) (x7 : Int32) (x9 : Int32) (x10 : Int32) (t0 : Int32) (t1 : Int32), wJ_X9_bind_424 k397 σ x2 x3 x6 x7 x9 x10 t0 t1 → ∀ (H : Heap) (locs : List Loc), nk_W D cI cZ cL ad am b0 σ H → va_S (nk_A ad am s.heap.size) s.heap H locs → ∀ (ls : Array Slot), lv_has ls 11 [(0, .ref (am 0)), (2, .int x2), (3, .int x3), (6, .int x6), (7, .int x7), (9, .int x9), (10, .int x10)] → W p l e rmX9_bind s m args below meth c H locs 0 0 (vx_MQ below (va_Qi (fun r u => Q r u) (nk_B D cI cZ cL ad am b0) (nk_A ad am s.heap.size)) nk_XF args s 3 18 (nk_A ad am s.heap.size)) (F0 m 424 ls [.int t1, .int t0]) := by
  obtain ⟨hx, hb, hml, hown, hts, hr, hlocks⟩ := id C0
  intro σ x2 x3 x6 x7 x9 x10 t0 t1 hw H locs hW hS  ls hl
  refine lv_iadd hx hb dX9_bind_424 ?_
  refine lv_istore (lv' := [(8, .int (t0 + t1)), (0, .ref (am 0)), (2, .int x2), (3, .int x3), (6, .int x6), (7, .int x7), (9, .int x9), (10, .int x10)]) hx hb dX9_bind_425 hl (by decide) rfl (fun ls hl => ?_)
  refine lv_iinc (v := (x10 + 1)) (lv' := [(10, .int (x10 + 1)), (8, .int (t0 + t1)), (0, .ref (am 0)), (2, .int x2), (3, .int x3), (6, .int x6), (7, .int x7), (9, .int x9)]) hx hb dX9_bind_427 hl (k := 7) rfl rfl (by decide) rfl (fun ls hl => ?_)
  refine lv_goto (tgt := 397) hx hb dX9_bind_430 (by decide) ?_
  exact hk397 σ x2 x3 x6 x7 (t0 + t1) x9 (x10 + 1) hw _ _ hW hS  _ (lv_sub hl [2, 3, 4, 5, 6, 1, 7, 0] rfl)
set_option maxHeartbeats 4000000 in
set_option maxRecDepth 100000 in
theorem tL_X9_bind_397 {p : Program} {l : Launch} {e : Env} {s : State} {m : MethodId} {args : Array Value} {below : List Frame} {meth : Method} {c : Code} {D : va_G} {cI cZ cG cL : ClassId} {ad am : Nat → Nat} {q1 q2 q3 b0 L : Nat} {xs : Nat → Int32} (C0 : gk_F p s m args meth c cX9_bind 11 (some .boolean) RX9) (hK : gk_K D cI cZ cG cL s) (hZ : nk_Z q1 q2 q3 b0 L xs (nk_A ad am s.heap.size) s s.heap) (htab : c.exceptionTable.toList = tableOf [(56, 148, 464, 138), (149, 278, 464, 138), (279, 463, 464, 138), (56, 148, 469, 140), (149, 278, 469, 140), (279, 463, 469, 140)]) (hfl : l.stackTraces = false) {Q : Int32 → nk_C → Prop} {k433 : nk_C → Int32 → Int32 → Int32 → Int32 → Int32 → Int32 → Prop} (hk433 : ∀ (σ : nk_C) (x2 : Int32) (x3 : Int32) (x6 : Int32) (x7 : Int32) (x8 : Int32) (x9 : Int32), k433 σ x2 x3 x6 x7 x8 x9 → ∀ (H : Heap) (locs : List Loc), nk_W D cI cZ cL ad am b0 σ H → va_S (nk_A ad am s.heap.size) s.heap H locs → ∀ (ls : Array Slot), lv_has ls 11 [(0, .ref (am 0)), (2, .int x2), (3, .int x3), (6, .int x6), (7, .int x7), (8, .int x8), (9, .int x9)] → W p l e rmX9_bind s m args below meth c H locs 0 0 (vx_MQ below (va_Qi (fun r u => Q r u) (nk_B D cI cZ cL ad am b0) (nk_A ad am s.heap.size)) nk_XF args s 3 18 (nk_A ad am s.heap.size)) (F0 m 433 ls [])) : ∀ (n : Nat) (σ : nk_C) (x2 : Int32) (x3 : Int32) (x6 : Int32) (x7 : Int32) (x8 : Int32) (x9 : Int32) (x10 : Int32), wL_X9_bind_397 k433 n σ x2 x3 x6 x7 x8 x9 x10 → ∀ (H : Heap) (locs : List Loc), nk_W D cI cZ cL ad am b0 σ H → va_S (nk_A ad am s.heap.size) s.heap H locs → ∀ (ls : Array Slot), lv_has ls 11 [(0, .ref (am 0)), (2, .int x2), (3, .int x3), (6, .int x6), (7, .int x7), (8, .int x8), (9, .int x9), (10, .int x10)] → W p l e rmX9_bind s m args below meth c H locs 0 0 (vx_MQ below (va_Qi (fun r u => Q r u) (nk_B D cI cZ cL ad am b0) (nk_A ad am s.heap.size)) nk_XF args s 3 18 (nk_A ad am s.heap.size)) (F0 m 397 ls []) := by
  obtain ⟨hx, hb, hml, hown, hts, hr, hlocks⟩ := id C0
  intro n
  induction n with
  | zero => exact fun _ _ _ _ _ _ _ _ hw => False.elim hw
  | succ n ih =>
    intro σ x2 x3 x6 x7 x8 x9 x10 hw H locs hW hS  ls hl
    refine lv_iload hx hb dX9_bind_397 (lv_at hl 7 rfl) ?_
    refine lv_iload hx hb dX9_bind_399 (lv_at hl 6 rfl) ?_
    refine lv_icmp_ge (tgt := 433) hx hb dX9_bind_401 (by decide) (fun c401 => ?_) (fun c401 => ?_)
    · have hw := hw.1 c401
      exact hk433 σ x2 x3 x6 x7 x8 x9 hw _ _ hW hS  _ (lv_sub hl [0, 1, 2, 3, 4, 5, 6] rfl)
    · have hw := hw.2 c401
      refine lv_iload hx hb dX9_bind_404 (lv_at hl 5 rfl) ?_
      refine lv_aload_n hx hb dX9_bind_406 rfl (lv_at hl 0 rfl) ?_
      refine gk_get hx hb hts iwX9 hown hK.1 (nk_obj hW) rfl 11 (by decide) (hts _ fl_X9_31) (fun _ h9 => h9) rfl dX9_bind_407 ?_
      refine lv_iload hx hb dX9_bind_410 (lv_at hl 6 rfl) ?_
      obtain ⟨hin, hw⟩ := hw
      refine nk_aalz hx hb hK (nk_o11 hW) hin (by decide) dX9_bind_412 (fun hz412 => ?_)
      refine lv_iload hx hb dX9_bind_413 (lv_at hl 7 rfl) ?_
      obtain ⟨hin, hw⟩ := hw
      refine gk_zald hx hb hK.1 1 (nk_zr hW hz412) rfl hin dX9_bind_415 ?_
      refine lv_if_eq (tgt := 423) hx hb dX9_bind_416 (by decide) (fun c416 => ?_) (fun c416 => ?_)
      · have hw := hw.1 c416
        refine lv_iconst (v := 0) hx hb dX9_bind_423 (by decide) ?_
        refine tJ_X9_bind_424 C0 hK hZ htab hfl (hk397 := ih) σ x2 x3 x6 x7 x9 x10 x8 0 hw _ _ hW hS  _ (lv_sub hl [0, 1, 2, 3, 4, 6, 7] rfl)
      · have hw := hw.2 c416
        refine lv_iconst (v := 1) hx hb dX9_bind_419 (by decide) ?_
        refine lv_goto (tgt := 424) hx hb dX9_bind_420 (by decide) ?_
        refine tJ_X9_bind_424 C0 hK hZ htab hfl (hk397 := ih) σ x2 x3 x6 x7 x9 x10 x8 1 hw _ _ hW hS  _ (lv_sub hl [0, 1, 2, 3, 4, 6, 7] rfl)
set_option maxHeartbeats 4000000 in
set_option maxRecDepth 100000 in
theorem tL_X9_bind_385 {p : Program} {l : Launch} {e : Env} {s : State} {m : MethodId} {args : Array Value} {below : List Frame} {meth : Method} {c : Code} {D : va_G} {cI cZ cG cL : ClassId} {ad am : Nat → Nat} {q1 q2 q3 b0 L : Nat} {xs : Nat → Int32} (C0 : gk_F p s m args meth c cX9_bind 11 (some .boolean) RX9) (hK : gk_K D cI cZ cG cL s) (hZ : nk_Z q1 q2 q3 b0 L xs (nk_A ad am s.heap.size) s s.heap) (htab : c.exceptionTable.toList = tableOf [(56, 148, 464, 138), (149, 278, 464, 138), (279, 463, 464, 138), (56, 148, 469, 140), (149, 278, 469, 140), (279, 463, 469, 140)]) (hfl : l.stackTraces = false) {Q : Int32 → nk_C → Prop} {k439 : nk_C → Int32 → Int32 → Int32 → Int32 → Int32 → Prop} (hk439 : ∀ (σ : nk_C) (x2 : Int32) (x3 : Int32) (x6 : Int32) (x7 : Int32) (x8 : Int32), k439 σ x2 x3 x6 x7 x8 → ∀ (H : Heap) (locs : List Loc), nk_W D cI cZ cL ad am b0 σ H → va_S (nk_A ad am s.heap.size) s.heap H locs → ∀ (ls : Array Slot), lv_has ls 11 [(0, .ref (am 0)), (2, .int x2), (3, .int x3), (6, .int x6), (7, .int x7), (8, .int x8)] → W p l e rmX9_bind s m args below meth c H locs 0 0 (vx_MQ below (va_Qi (fun r u => Q r u) (nk_B D cI cZ cL ad am b0) (nk_A ad am s.heap.size)) nk_XF args s 3 18 (nk_A ad am s.heap.size)) (F0 m 439 ls [])) : ∀ (n : Nat) (σ : nk_C) (x2 : Int32) (x3 : Int32) (x6 : Int32) (x7 : Int32) (x8 : Int32) (x9 : Int32), wL_X9_bind_385 k439 n σ x2 x3 x6 x7 x8 x9 → ∀ (H : Heap) (locs : List Loc), nk_W D cI cZ cL ad am b0 σ H → va_S (nk_A ad am s.heap.size) s.heap H locs → ∀ (ls : Array Slot), lv_has ls 11 [(0, .ref (am 0)), (2, .int x2), (3, .int x3), (6, .int x6), (7, .int x7), (8, .int x8), (9, .int x9)] → W p l e rmX9_bind s m args below meth c H locs 0 0 (vx_MQ below (va_Qi (fun r u => Q r u) (nk_B D cI cZ cL ad am b0) (nk_A ad am s.heap.size)) nk_XF args s 3 18 (nk_A ad am s.heap.size)) (F0 m 385 ls []) := by
  obtain ⟨hx, hb, hml, hown, hts, hr, hlocks⟩ := id C0
  intro n
  induction n with
  | zero => exact fun _ _ _ _ _ _ _ hw => False.elim hw
  | succ n ih =>
    intro σ x2 x3 x6 x7 x8 x9 hw H locs hW hS  ls hl
    refine lv_iload hx hb dX9_bind_385 (lv_at hl 6 rfl) ?_
    refine lv_aload_n hx hb dX9_bind_387 rfl (lv_at hl 0 rfl) ?_
    refine gk_get hx hb hts iwX9 hown hK.1 (nk_obj hW) rfl 9 (by decide) (hts _ fl_X9_92) (fun _ h9 => h9) rfl dX9_bind_388 ?_
    refine lv_icmp_ge (tgt := 439) hx hb dX9_bind_391 (by decide) (fun c391 => ?_) (fun c391 => ?_)
    · have hw := hw.1 c391
      exact hk439 σ x2 x3 x6 x7 x8 hw _ _ hW hS  _ (lv_sub hl [0, 1, 2, 3, 4, 5] rfl)
    · have hw := hw.2 c391
      refine lv_iconst (v := 0) hx hb dX9_bind_394 (by decide) ?_
      refine lv_istore (lv' := [(10, .int 0), (0, .ref (am 0)), (2, .int x2), (3, .int x3), (6, .int x6), (7, .int x7), (8, .int x8), (9, .int x9)]) hx hb dX9_bind_395 hl (by decide) rfl (fun ls hl => ?_)
      obtain ⟨n397, hw⟩ := hw
      refine tL_X9_bind_397 C0 hK hZ htab hfl (hk433 := ?_) n397 σ x2 x3 x6 x7 x8 x9 0 hw _ _ hW hS  _ (lv_sub hl [1, 2, 3, 4, 5, 6, 7, 0] rfl)
      · intro σ x2 x3 x6 x7 x8 x9 hw H locs hW hS  ls hl
        refine lv_iinc (v := (x9 + 1)) (lv' := [(9, .int (x9 + 1)), (0, .ref (am 0)), (2, .int x2), (3, .int x3), (6, .int x6), (7, .int x7), (8, .int x8)]) hx hb dX9_bind_433 hl (k := 6) rfl rfl (by decide) rfl (fun ls hl => ?_)
        refine lv_goto (tgt := 385) hx hb dX9_bind_436 (by decide) ?_
        exact ih σ x2 x3 x6 x7 x8 (x9 + 1) hw _ _ hW hS  _ (lv_sub hl [1, 2, 3, 4, 5, 6, 0] rfl)
set_option maxHeartbeats 4000000 in
set_option maxRecDepth 100000 in
theorem tJ_X9_bind_379 {p : Program} {l : Launch} {e : Env} {s : State} {m : MethodId} {args : Array Value} {below : List Frame} {meth : Method} {c : Code} {D : va_G} {cI cZ cG cL : ClassId} {ad am : Nat → Nat} {q1 q2 q3 b0 L : Nat} {xs : Nat → Int32} (C0 : gk_F p s m args meth c cX9_bind 11 (some .boolean) RX9) (hK : gk_K D cI cZ cG cL s) (hZ : nk_Z q1 q2 q3 b0 L xs (nk_A ad am s.heap.size) s s.heap) (htab : c.exceptionTable.toList = tableOf [(56, 148, 464, 138), (149, 278, 464, 138), (279, 463, 464, 138), (56, 148, 469, 140), (149, 278, 469, 140), (279, 463, 469, 140)]) (hfl : l.stackTraces = false) {Q : Int32 → nk_C → Prop} : ∀ (σ : nk_C) (x2 : Int32) (x3 : Int32) (x6 : Int32) (x7 : Int32), wJ_X9_bind_379 Q σ x2 x3 x6 x7 → ∀ (H : Heap) (locs : List Loc), nk_W D cI cZ cL ad am b0 σ H → va_S (nk_A ad am s.heap.size) s.heap H locs → ∀ (ls : Array Slot), lv_has ls 11 [(0, .ref (am 0)), (2, .int x2), (3, .int x3), (6, .int x6), (7, .int x7)] → W p l e rmX9_bind s m args below meth c H locs 0 0 (vx_MQ below (va_Qi (fun r u => Q r u) (nk_B D cI cZ cL ad am b0) (nk_A ad am s.heap.size)) nk_XF args s 3 18 (nk_A ad am s.heap.size)) (F0 m 379 ls []) := by
  obtain ⟨hx, hb, hml, hown, hts, hr, hlocks⟩ := id C0
  intro σ x2 x3 x6 x7 hw H locs hW hS  ls hl
  refine lv_iconst (v := 0) hx hb dX9_bind_379 (by decide) ?_
  refine lv_istore (lv' := [(8, .int 0), (0, .ref (am 0)), (2, .int x2), (3, .int x3), (6, .int x6), (7, .int x7)]) hx hb dX9_bind_380 hl (by decide) rfl (fun ls hl => ?_)
  refine lv_iconst (v := 0) hx hb dX9_bind_382 (by decide) ?_
  refine lv_istore (lv' := [(9, .int 0), (8, .int 0), (0, .ref (am 0)), (2, .int x2), (3, .int x3), (6, .int x6), (7, .int x7)]) hx hb dX9_bind_383 hl (by decide) rfl (fun ls hl => ?_)
  obtain ⟨n385, hw⟩ := hw
  refine tL_X9_bind_385 C0 hK hZ htab hfl (hk439 := ?_) n385 σ x2 x3 x6 x7 0 0 hw _ _ hW hS  _ (lv_sub hl [2, 3, 4, 5, 6, 1, 0] rfl)
  · intro σ x2 x3 x6 x7 x8 hw H locs hW hS  ls hl
    refine lv_aload_n hx hb dX9_bind_439 rfl (lv_at hl 0 rfl) ?_
    refine gk_get hx hb hts iwX9 hown hK.1 (nk_obj hW) rfl 0 (by decide) (hts _ fl_X9_10) (fun _ h9 => h9) rfl dX9_bind_440 ?_
    refine lv_iload_n hx hb dX9_bind_443 rfl (lv_at hl 1 rfl) ?_
    refine lv_iload_n hx hb dX9_bind_444 rfl (lv_at hl 2 rfl) ?_
    refine nk_gTi ⟨hx, hb, hml, hown, hts⟩ (c_X8_setApart l hfl D cI cZ cG cL ad q1 q2 q3 hw) (cwV 2 hts (gk_gV ml_X9_135 im_X8_setApart se_X8_setApart in_X8 co_X8_setApart) rfl rfl rfl (by decide +kernel) ⟨Nat.le_of_ble_eq_true rfl, Nat.le_of_ble_eq_true rfl⟩) (gk_recv hK.1 (gk_o0 hW.1) rfl) hW hK hZ hS (nk_A.up hS.1) rfl hl.1 (rest := []) rfl (lv_room (Nat.le_of_ble_eq_true rfl)) dX9_bind_445 ⟨Nat.le_of_ble_eq_true rfl, Nat.le_of_ble_eq_true rfl⟩ (fun E ce q9 s445 H locs hT hW hk hS hc1 hc2 hc3 => ?_) (fun r445 s445 H locs hw hW hk hS => ?_)
    · rcases hT with ⟨rfl, hw⟩ | ⟨rfl, hw⟩
      · have hp : ∀ z ∈ ([⟨56, 148, 464, 138⟩, ⟨149, 278, 464, 138⟩] : List ExceptionTableEntry), covers z 445 = false ∨ (z.catchType ≠ 0 ∧ ∃ nm : String, (Cond.classLink RX9 z.catchType nm).before args s = true ∧ va_Nc gk_E2 nm s) := by
          intro z hz
          simp only [List.mem_cons, List.not_mem_nil, or_false] at hz
          rcases hz with rfl | rfl
          · exact Or.inl (by decide)
          · exact Or.inl (by decide)
        refine vx_catch hown [⟨56, 148, 464, 138⟩, ⟨149, 278, 464, 138⟩] ⟨279, 463, 464, 138⟩ [⟨56, 148, 469, 140⟩, ⟨149, 278, 469, 140⟩, ⟨279, 463, 469, 140⟩] (by rw [htab]; rfl) hp (by decide) (by decide) (hts _ cl_X9_138) (va_Nw.use rfl (hZ.1.2.1 _ (by decide))) hc1 hc2 hc3 ?_
        refine lv_astore (lv' := [(8, .ref q9), (0, .ref (am 0)), (2, .int x2), (3, .int x3), (6, .int x6), (7, .int x7)]) hx hb dX9_bind_464 hl (by decide) rfl (fun ls hl => ?_)
        refine lv_iload hx hb dX9_bind_466 (lv_at hl 4 rfl) ?_
        refine W.widen (k := 3) (n := 18) (Nat.le_of_ble_eq_true rfl) (Nat.le_of_ble_eq_true rfl) ?_
        refine vx_ret ?_
        obtain ⟨hz, hw⟩ := hw
        exact nk_retz C0 hz hw hW hS dX9_bind_468
      · have hp : ∀ z ∈ ([⟨56, 148, 464, 138⟩, ⟨149, 278, 464, 138⟩, ⟨279, 463, 464, 138⟩, ⟨56, 148, 469, 140⟩, ⟨149, 278, 469, 140⟩] : List ExceptionTableEntry), covers z 445 = false ∨ (z.catchType ≠ 0 ∧ ∃ nm : String, (Cond.classLink RX9 z.catchType nm).before args s = true ∧ va_Nc gk_E3 nm s) := by
          intro z hz
          simp only [List.mem_cons, List.not_mem_nil, or_false] at hz
          rcases hz with rfl | rfl | rfl | rfl | rfl
          · exact Or.inl (by decide)
          · exact Or.inl (by decide)
          · exact Or.inr ⟨by decide, gk_E2, hts _ cl_X9_138, hZ.2.2.2.2.1.2.2.2⟩
          · exact Or.inl (by decide)
          · exact Or.inl (by decide)
        refine vx_catch hown [⟨56, 148, 464, 138⟩, ⟨149, 278, 464, 138⟩, ⟨279, 463, 464, 138⟩, ⟨56, 148, 469, 140⟩, ⟨149, 278, 469, 140⟩] ⟨279, 463, 469, 140⟩ [] (by rw [htab]; rfl) hp (by decide) (by decide) (hts _ cl_X9_140) (va_Nw.use rfl (hZ.1.2.1 _ (by decide))) hc1 hc2 hc3 ?_
        refine lv_astore (lv' := [(8, .ref q9), (0, .ref (am 0)), (2, .int x2), (3, .int x3), (6, .int x6), (7, .int x7)]) hx hb dX9_bind_469 hl (by decide) rfl (fun ls hl => ?_)
        refine lv_iload hx hb dX9_bind_471 (lv_at hl 5 rfl) ?_
        refine lv_if_eq (tgt := 485) hx hb dX9_bind_473 (by decide) (fun c473 => ?_) (fun c473 => ?_)
        · have hw := hw.1 c473
          refine lv_iconst (v := 0) hx hb dX9_bind_485 (by decide) ?_
          refine W.widen (k := 3) (n := 18) (Nat.le_of_ble_eq_true rfl) (Nat.le_of_ble_eq_true rfl) ?_
          refine vx_ret ?_
          exact nk_retz C0 (by decide) hw hW hS dX9_bind_486
        · have hw := hw.2 c473
          refine lv_iload hx hb dX9_bind_476 (lv_at hl 4 rfl) ?_
          refine lv_if_ne (tgt := 485) hx hb dX9_bind_478 (by decide) (fun c478 => ?_) (fun c478 => ?_)
          · have hw := hw.1 c478
            refine lv_iconst (v := 0) hx hb dX9_bind_485 (by decide) ?_
            refine W.widen (k := 3) (n := 18) (Nat.le_of_ble_eq_true rfl) (Nat.le_of_ble_eq_true rfl) ?_
            refine vx_ret ?_
            exact nk_retz C0 (by decide) hw hW hS dX9_bind_486
          · have hw := hw.2 c478
            refine lv_iconst (v := 1) hx hb dX9_bind_481 (by decide) ?_
            refine lv_goto (tgt := 486) hx hb dX9_bind_482 (by decide) ?_
            refine W.widen (k := 3) (n := 18) (Nat.le_of_ble_eq_true rfl) (Nat.le_of_ble_eq_true rfl) ?_
            refine vx_ret ?_
            exact nk_retz C0 (by decide) hw hW hS dX9_bind_486
    · refine lv_iload hx hb dX9_bind_448 (lv_at hl 5 rfl) ?_
      refine lv_icmp_ne (tgt := 462) hx hb dX9_bind_450 (by decide) (fun c450 => ?_) (fun c450 => ?_)
      · have hw := hw.1 c450
        refine lv_iconst (v := 0) hx hb dX9_bind_462 (by decide) ?_
        refine W.widen (k := 3) (n := 18) (Nat.le_of_ble_eq_true rfl) (Nat.le_of_ble_eq_true rfl) ?_
        refine vx_ret ?_
        exact nk_retz C0 (by decide) hw hW hS dX9_bind_463
      · have hw := hw.2 c450
        refine lv_iload hx hb dX9_bind_453 (lv_at hl 4 rfl) ?_
        refine lv_if_ne (tgt := 462) hx hb dX9_bind_455 (by decide) (fun c455 => ?_) (fun c455 => ?_)
        · have hw := hw.1 c455
          refine lv_iconst (v := 0) hx hb dX9_bind_462 (by decide) ?_
          refine W.widen (k := 3) (n := 18) (Nat.le_of_ble_eq_true rfl) (Nat.le_of_ble_eq_true rfl) ?_
          refine vx_ret ?_
          exact nk_retz C0 (by decide) hw hW hS dX9_bind_463
        · have hw := hw.2 c455
          refine lv_iconst (v := 1) hx hb dX9_bind_458 (by decide) ?_
          refine lv_goto (tgt := 463) hx hb dX9_bind_459 (by decide) ?_
          refine W.widen (k := 3) (n := 18) (Nat.le_of_ble_eq_true rfl) (Nat.le_of_ble_eq_true rfl) ?_
          refine vx_ret ?_
          exact nk_retz C0 (by decide) hw hW hS dX9_bind_463
set_option maxHeartbeats 4000000 in
set_option maxRecDepth 100000 in
theorem tJ_X9_bind_312 {p : Program} {l : Launch} {e : Env} {s : State} {m : MethodId} {args : Array Value} {below : List Frame} {meth : Method} {c : Code} {D : va_G} {cI cZ cG cL : ClassId} {ad am : Nat → Nat} {q1 q2 q3 b0 L : Nat} {xs : Nat → Int32} (C0 : gk_F p s m args meth c cX9_bind 11 (some .boolean) RX9) (hK : gk_K D cI cZ cG cL s) (hZ : nk_Z q1 q2 q3 b0 L xs (nk_A ad am s.heap.size) s s.heap) (htab : c.exceptionTable.toList = tableOf [(56, 148, 464, 138), (149, 278, 464, 138), (279, 463, 464, 138), (56, 148, 469, 140), (149, 278, 469, 140), (279, 463, 469, 140)]) (hfl : l.stackTraces = false) {Q : Int32 → nk_C → Prop} : ∀ (σ : nk_C) (x2 : Int32) (x3 : Int32) (x6 : Int32) (t0 : Int32), wJ_X9_bind_312 Q σ x2 x3 x6 t0 → ∀ (H : Heap) (locs : List Loc), nk_W D cI cZ cL ad am b0 σ H → va_S (nk_A ad am s.heap.size) s.heap H locs → ∀ (ls : Array Slot), lv_has ls 11 [(0, .ref (am 0)), (2, .int x2), (3, .int x3), (6, .int x6)] → W p l e rmX9_bind s m args below meth c H locs 0 0 (vx_MQ below (va_Qi (fun r u => Q r u) (nk_B D cI cZ cL ad am b0) (nk_A ad am s.heap.size)) nk_XF args s 3 18 (nk_A ad am s.heap.size)) (F0 m 312 ls [.int t0]) := by
  obtain ⟨hx, hb, hml, hown, hts, hr, hlocks⟩ := id C0
  intro σ x2 x3 x6 t0 hw H locs hW hS  ls hl
  refine lv_istore (lv' := [(7, .int t0), (0, .ref (am 0)), (2, .int x2), (3, .int x3), (6, .int x6)]) hx hb dX9_bind_312 hl (by decide) rfl (fun ls hl => ?_)
  refine lv_iload hx hb dX9_bind_314 (lv_at hl 0 rfl) ?_
  refine lv_if_ne (tgt := 379) hx hb dX9_bind_316 (by decide) (fun c316 => ?_) (fun c316 => ?_)
  · have hw := hw.1 c316
    refine tJ_X9_bind_379 C0 hK hZ htab hfl  σ x2 x3 x6 t0 hw _ _ hW hS  _ (lv_sub hl [1, 2, 3, 4, 0] rfl)
  · have hw := hw.2 c316
    refine lv_aload_n hx hb dX9_bind_319 rfl (lv_at hl 1 rfl) ?_
    refine gk_get hx hb hts iwX9 hown hK.1 (nk_obj hW) rfl 11 (by decide) (hts _ fl_X9_31) (fun _ h9 => h9) rfl dX9_bind_320 ?_
    refine lv_iload_n hx hb dX9_bind_323 rfl (lv_at hl 2 rfl) ?_
    obtain ⟨hin, hw⟩ := hw
    refine nk_aalz hx hb hK (nk_o11 hW) hin (by decide) dX9_bind_324 (fun hz324 => ?_)
    refine lv_iload_n hx hb dX9_bind_325 rfl (lv_at hl 3 rfl) ?_
    refine lv_iconst (v := 1) hx hb dX9_bind_326 (by decide) ?_
    obtain ⟨hin, hw⟩ := hw
    refine gk_zast hx hb hK.1 hS (nk_A.in (tk_z_in hz324.1 hz324.2)) 1 (nk_zr hW hz324) rfl hin dX9_bind_327 (fun H locs h1 _ oq hS => ?_)
    have hW := hW.setZ (k := (31 + x2.toNatClampNeg)) hz324 h1 oq
    obtain ⟨σ327, eσ327⟩ : ∃ z, z = nk_st σ (31 + x2.toNatClampNeg) x3 (vp_nar .boolean 1) := ⟨_, rfl⟩
    have hW := nk_stW eσ327 hW
    have hw := hw σ327 eσ327
    refine lv_aload_n hx hb dX9_bind_328 rfl (lv_at hl 1 rfl) ?_
    refine gk_get hx hb hts iwX9 hown hK.1 (nk_obj hW) rfl 11 (by decide) (hts _ fl_X9_31) (fun _ h9 => h9) rfl dX9_bind_329 ?_
    refine lv_iload_n hx hb dX9_bind_332 rfl (lv_at hl 3 rfl) ?_
    obtain ⟨hin, hw⟩ := hw
    refine nk_aalz hx hb hK (nk_o11 hW) hin (by decide) dX9_bind_333 (fun hz333 => ?_)
    refine lv_iload_n hx hb dX9_bind_334 rfl (lv_at hl 2 rfl) ?_
    refine lv_iconst (v := 1) hx hb dX9_bind_335 (by decide) ?_
    obtain ⟨hin, hw⟩ := hw
    refine gk_zast hx hb hK.1 hS (nk_A.in (tk_z_in hz333.1 hz333.2)) 1 (nk_zr hW hz333) rfl hin dX9_bind_336 (fun H locs h1 _ oq hS => ?_)
    have hW := hW.setZ (k := (31 + x3.toNatClampNeg)) hz333 h1 oq
    obtain ⟨σ336, eσ336⟩ : ∃ z, z = nk_st σ327 (31 + x3.toNatClampNeg) x2 (vp_nar .boolean 1) := ⟨_, rfl⟩
    have hW := nk_stW eσ336 hW
    have hw := hw σ336 eσ336
    refine lv_aload_n hx hb dX9_bind_337 rfl (lv_at hl 1 rfl) ?_
    refine nk_callRi ⟨hx, hb, hml, hown, hts⟩ (c_X9_anyApart l D cI cZ cG cL ad am q1 q2 q3 b0 L xs hw) (cwV 0 hts (gk_gV ml_X9_128 im_X9_anyApart se_X9_anyApart in_X9 co_X9_anyApart) rfl rfl rfl (by decide +kernel) ⟨Nat.le_of_ble_eq_true rfl, Nat.le_of_ble_eq_true rfl⟩) (gk_recv hK.1 (nk_obj hW) rfl) hW hK hZ trivial hS (nk_A.up hS.1) rfl hl.1 (rest := []) rfl (lv_room (Nat.le_of_ble_eq_true rfl)) dX9_bind_338 ⟨Nat.le_of_ble_eq_true rfl, Nat.le_of_ble_eq_true rfl⟩ (fun r338 H locs hw hW _ hk hS => ?_)
    refine lv_istore (lv' := [(7, .int r338), (0, .ref (am 0)), (2, .int x2), (3, .int x3), (6, .int x6)]) hx hb dX9_bind_341 hl (by decide) rfl (fun ls hl => ?_)
    refine lv_aload_n hx hb dX9_bind_343 rfl (lv_at hl 1 rfl) ?_
    refine gk_get hx hb hts iwX9 hown hK.1 (nk_obj hW) rfl 11 (by decide) (hts _ fl_X9_31) (fun _ h9 => h9) rfl dX9_bind_344 ?_
    refine lv_iload_n hx hb dX9_bind_347 rfl (lv_at hl 2 rfl) ?_
    obtain ⟨hin, hw⟩ := hw
    refine nk_aalz hx hb hK (nk_o11 hW) hin (by decide) dX9_bind_348 (fun hz348 => ?_)
    refine lv_iload_n hx hb dX9_bind_349 rfl (lv_at hl 3 rfl) ?_
    refine lv_iload hx hb dX9_bind_350 (lv_at hl 0 rfl) ?_
    refine lv_if_ne (tgt := 359) hx hb dX9_bind_352 (by decide) (fun c352 => ?_) (fun c352 => ?_)
    · have hw := hw.1 c352
      refine lv_iconst (v := 0) hx hb dX9_bind_359 (by decide) ?_
      obtain ⟨hin, hw⟩ := hw
      refine gk_zast hx hb hK.1 hS (nk_A.in (tk_z_in hz348.1 hz348.2)) 1 (nk_zr hW hz348) rfl hin dX9_bind_360 (fun H locs h1 _ oq hS => ?_)
      have hW := hW.setZ (k := (31 + x2.toNatClampNeg)) hz348 h1 oq
      obtain ⟨σ360, eσ360⟩ : ∃ z, z = nk_st σ336 (31 + x2.toNatClampNeg) x3 (vp_nar .boolean 0) := ⟨_, rfl⟩
      have hW := nk_stW eσ360 hW
      have hw := hw σ360 eσ360
      refine lv_aload_n hx hb dX9_bind_361 rfl (lv_at hl 1 rfl) ?_
      refine gk_get hx hb hts iwX9 hown hK.1 (nk_obj hW) rfl 11 (by decide) (hts _ fl_X9_31) (fun _ h9 => h9) rfl dX9_bind_362 ?_
      refine lv_iload_n hx hb dX9_bind_365 rfl (lv_at hl 3 rfl) ?_
      obtain ⟨hin, hw⟩ := hw
      refine nk_aalz hx hb hK (nk_o11 hW) hin (by decide) dX9_bind_366 (fun hz366 => ?_)
      refine lv_iload_n hx hb dX9_bind_367 rfl (lv_at hl 2 rfl) ?_
      refine lv_iload hx hb dX9_bind_368 (lv_at hl 0 rfl) ?_
      refine lv_if_ne (tgt := 377) hx hb dX9_bind_370 (by decide) (fun c370 => ?_) (fun c370 => ?_)
      · have hw := hw.1 c370
        refine lv_iconst (v := 0) hx hb dX9_bind_377 (by decide) ?_
        obtain ⟨hin, hw⟩ := hw
        refine gk_zast hx hb hK.1 hS (nk_A.in (tk_z_in hz366.1 hz366.2)) 1 (nk_zr hW hz366) rfl hin dX9_bind_378 (fun H locs h1 _ oq hS => ?_)
        have hW := hW.setZ (k := (31 + x3.toNatClampNeg)) hz366 h1 oq
        obtain ⟨σ378, eσ378⟩ : ∃ z, z = nk_st σ360 (31 + x3.toNatClampNeg) x2 (vp_nar .boolean 0) := ⟨_, rfl⟩
        have hW := nk_stW eσ378 hW
        have hw := hw σ378 eσ378
        refine tJ_X9_bind_379 C0 hK hZ htab hfl  σ378 x2 x3 x6 r338 hw _ _ hW hS  _ (lv_sub hl [1, 2, 3, 4, 0] rfl)
      · have hw := hw.2 c370
        refine lv_iconst (v := 1) hx hb dX9_bind_373 (by decide) ?_
        refine lv_goto (tgt := 378) hx hb dX9_bind_374 (by decide) ?_
        obtain ⟨hin, hw⟩ := hw
        refine gk_zast hx hb hK.1 hS (nk_A.in (tk_z_in hz366.1 hz366.2)) 1 (nk_zr hW hz366) rfl hin dX9_bind_378 (fun H locs h1 _ oq hS => ?_)
        have hW := hW.setZ (k := (31 + x3.toNatClampNeg)) hz366 h1 oq
        obtain ⟨σ378, eσ378⟩ : ∃ z, z = nk_st σ360 (31 + x3.toNatClampNeg) x2 (vp_nar .boolean 1) := ⟨_, rfl⟩
        have hW := nk_stW eσ378 hW
        have hw := hw σ378 eσ378
        refine tJ_X9_bind_379 C0 hK hZ htab hfl  σ378 x2 x3 x6 r338 hw _ _ hW hS  _ (lv_sub hl [1, 2, 3, 4, 0] rfl)
    · have hw := hw.2 c352
      refine lv_iconst (v := 1) hx hb dX9_bind_355 (by decide) ?_
      refine lv_goto (tgt := 360) hx hb dX9_bind_356 (by decide) ?_
      obtain ⟨hin, hw⟩ := hw
      refine gk_zast hx hb hK.1 hS (nk_A.in (tk_z_in hz348.1 hz348.2)) 1 (nk_zr hW hz348) rfl hin dX9_bind_360 (fun H locs h1 _ oq hS => ?_)
      have hW := hW.setZ (k := (31 + x2.toNatClampNeg)) hz348 h1 oq
      obtain ⟨σ360, eσ360⟩ : ∃ z, z = nk_st σ336 (31 + x2.toNatClampNeg) x3 (vp_nar .boolean 1) := ⟨_, rfl⟩
      have hW := nk_stW eσ360 hW
      have hw := hw σ360 eσ360
      refine lv_aload_n hx hb dX9_bind_361 rfl (lv_at hl 1 rfl) ?_
      refine gk_get hx hb hts iwX9 hown hK.1 (nk_obj hW) rfl 11 (by decide) (hts _ fl_X9_31) (fun _ h9 => h9) rfl dX9_bind_362 ?_
      refine lv_iload_n hx hb dX9_bind_365 rfl (lv_at hl 3 rfl) ?_
      obtain ⟨hin, hw⟩ := hw
      refine nk_aalz hx hb hK (nk_o11 hW) hin (by decide) dX9_bind_366 (fun hz366 => ?_)
      refine lv_iload_n hx hb dX9_bind_367 rfl (lv_at hl 2 rfl) ?_
      refine lv_iload hx hb dX9_bind_368 (lv_at hl 0 rfl) ?_
      refine lv_if_ne (tgt := 377) hx hb dX9_bind_370 (by decide) (fun c370 => ?_) (fun c370 => ?_)
      · have hw := hw.1 c370
        refine lv_iconst (v := 0) hx hb dX9_bind_377 (by decide) ?_
        obtain ⟨hin, hw⟩ := hw
        refine gk_zast hx hb hK.1 hS (nk_A.in (tk_z_in hz366.1 hz366.2)) 1 (nk_zr hW hz366) rfl hin dX9_bind_378 (fun H locs h1 _ oq hS => ?_)
        have hW := hW.setZ (k := (31 + x3.toNatClampNeg)) hz366 h1 oq
        obtain ⟨σ378, eσ378⟩ : ∃ z, z = nk_st σ360 (31 + x3.toNatClampNeg) x2 (vp_nar .boolean 0) := ⟨_, rfl⟩
        have hW := nk_stW eσ378 hW
        have hw := hw σ378 eσ378
        refine tJ_X9_bind_379 C0 hK hZ htab hfl  σ378 x2 x3 x6 r338 hw _ _ hW hS  _ (lv_sub hl [1, 2, 3, 4, 0] rfl)
      · have hw := hw.2 c370
        refine lv_iconst (v := 1) hx hb dX9_bind_373 (by decide) ?_
        refine lv_goto (tgt := 378) hx hb dX9_bind_374 (by decide) ?_
        obtain ⟨hin, hw⟩ := hw
        refine gk_zast hx hb hK.1 hS (nk_A.in (tk_z_in hz366.1 hz366.2)) 1 (nk_zr hW hz366) rfl hin dX9_bind_378 (fun H locs h1 _ oq hS => ?_)
        have hW := hW.setZ (k := (31 + x3.toNatClampNeg)) hz366 h1 oq
        obtain ⟨σ378, eσ378⟩ : ∃ z, z = nk_st σ360 (31 + x3.toNatClampNeg) x2 (vp_nar .boolean 1) := ⟨_, rfl⟩
        have hW := nk_stW eσ378 hW
        have hw := hw σ378 eσ378
        refine tJ_X9_bind_379 C0 hK hZ htab hfl  σ378 x2 x3 x6 r338 hw _ _ hW hS  _ (lv_sub hl [1, 2, 3, 4, 0] rfl)
set_option maxHeartbeats 4000000 in
set_option maxRecDepth 100000 in
theorem tJ_X9_bind_289 {p : Program} {l : Launch} {e : Env} {s : State} {m : MethodId} {args : Array Value} {below : List Frame} {meth : Method} {c : Code} {D : va_G} {cI cZ cG cL : ClassId} {ad am : Nat → Nat} {q1 q2 q3 b0 L : Nat} {xs : Nat → Int32} (C0 : gk_F p s m args meth c cX9_bind 11 (some .boolean) RX9) (hK : gk_K D cI cZ cG cL s) (hZ : nk_Z q1 q2 q3 b0 L xs (nk_A ad am s.heap.size) s s.heap) (htab : c.exceptionTable.toList = tableOf [(56, 148, 464, 138), (149, 278, 464, 138), (279, 463, 464, 138), (56, 148, 469, 140), (149, 278, 469, 140), (279, 463, 469, 140)]) (hfl : l.stackTraces = false) {Q : Int32 → nk_C → Prop} : ∀ (σ : nk_C) (x2 : Int32) (x3 : Int32) (x7 : Int32) (t0 : Int32), wJ_X9_bind_289 Q σ x2 x3 x7 t0 → ∀ (H : Heap) (locs : List Loc), nk_W D cI cZ cL ad am b0 σ H → va_S (nk_A ad am s.heap.size) s.heap H locs → ∀ (ls : Array Slot), lv_has ls 11 [(0, .ref (am 0)), (2, .int x2), (3, .int x3), (7, .int x7)] → W p l e rmX9_bind s m args below meth c H locs 0 0 (vx_MQ below (va_Qi (fun r u => Q r u) (nk_B D cI cZ cL ad am b0) (nk_A ad am s.heap.size)) nk_XF args s 3 18 (nk_A ad am s.heap.size)) (F0 m 289 ls [.int t0]) := by
  obtain ⟨hx, hb, hml, hown, hts, hr, hlocks⟩ := id C0
  intro σ x2 x3 x7 t0 hw H locs hW hS  ls hl
  refine lv_istore (lv' := [(6, .int t0), (0, .ref (am 0)), (2, .int x2), (3, .int x3), (7, .int x7)]) hx hb dX9_bind_289 hl (by decide) rfl (fun ls hl => ?_)
  refine lv_iload hx hb dX9_bind_291 (lv_at hl 0 rfl) ?_
  refine lv_if_ne (tgt := 307) hx hb dX9_bind_293 (by decide) (fun c293 => ?_) (fun c293 => ?_)
  · have hw := hw.1 c293
    refine tJ_X9_bind_307 C0 hK hZ htab hfl (hk312 := ?_) σ x2 x3 t0 x7 hw _ _ hW hS  _ (lv_sub hl [1, 2, 3, 0, 4] rfl)
    · intro σ x2 x3 x6 t0 hw H locs hW hS  ls hl
      refine tJ_X9_bind_312 C0 hK hZ htab hfl  σ x2 x3 x6 t0 hw _ _ hW hS  _ hl
  · have hw := hw.2 c293
    refine lv_aload_n hx hb dX9_bind_296 rfl (lv_at hl 1 rfl) ?_
    refine gk_get hx hb hts iwX9 hown hK.1 (nk_obj hW) rfl 11 (by decide) (hts _ fl_X9_31) (fun _ h9 => h9) rfl dX9_bind_297 ?_
    refine lv_iload_n hx hb dX9_bind_300 rfl (lv_at hl 2 rfl) ?_
    obtain ⟨hin, hw⟩ := hw
    refine nk_aalz hx hb hK (nk_o11 hW) hin (by decide) dX9_bind_301 (fun hz301 => ?_)
    refine lv_iload_n hx hb dX9_bind_302 rfl (lv_at hl 3 rfl) ?_
    obtain ⟨hin, hw⟩ := hw
    refine gk_zald hx hb hK.1 1 (nk_zr hW hz301) rfl hin dX9_bind_303 ?_
    refine lv_if_eq (tgt := 311) hx hb dX9_bind_304 (by decide) (fun c304 => ?_) (fun c304 => ?_)
    · have hw := hw.1 c304
      refine lv_iconst (v := 0) hx hb dX9_bind_311 (by decide) ?_
      refine tJ_X9_bind_312 C0 hK hZ htab hfl  σ x2 x3 t0 0 hw _ _ hW hS  _ (lv_sub hl [1, 2, 3, 0] rfl)
    · have hw := hw.2 c304
      refine tJ_X9_bind_307 C0 hK hZ htab hfl (hk312 := ?_) σ x2 x3 t0 x7 hw _ _ hW hS  _ (lv_sub hl [1, 2, 3, 0, 4] rfl)
      · intro σ x2 x3 x6 t0 hw H locs hW hS  ls hl
        refine tJ_X9_bind_312 C0 hK hZ htab hfl  σ x2 x3 x6 t0 hw _ _ hW hS  _ hl
set_option maxHeartbeats 4000000 in
set_option maxRecDepth 100000 in
theorem tJ_X9_bind_176 {p : Program} {l : Launch} {e : Env} {s : State} {m : MethodId} {args : Array Value} {below : List Frame} {meth : Method} {c : Code} {D : va_G} {cI cZ cG cL : ClassId} {ad am : Nat → Nat} {q1 q2 q3 b0 L : Nat} {xs : Nat → Int32} (C0 : gk_F p s m args meth c cX9_bind 11 (some .boolean) RX9) (hK : gk_K D cI cZ cG cL s) (hZ : nk_Z q1 q2 q3 b0 L xs (nk_A ad am s.heap.size) s s.heap) (htab : c.exceptionTable.toList = tableOf [(56, 148, 464, 138), (149, 278, 464, 138), (279, 463, 464, 138), (56, 148, 469, 140), (149, 278, 469, 140), (279, 463, 469, 140)]) (hfl : l.stackTraces = false) {Q : Int32 → nk_C → Prop} {k181 : nk_C → Int32 → Int32 → Int32 → Int32 → Int32 → Prop} (hk181 : ∀ (σ : nk_C) (x2 : Int32) (x3 : Int32) (x4 : Int32) (x7 : Int32) (t0 : Int32), k181 σ x2 x3 x4 x7 t0 → ∀ (H : Heap) (locs : List Loc), nk_W D cI cZ cL ad am b0 σ H → va_S (nk_A ad am s.heap.size) s.heap H locs → ∀ (ls : Array Slot), lv_has ls 11 [(0, .ref (am 0)), (2, .int x2), (3, .int x3), (4, .int x4), (7, .int x7)] → W p l e rmX9_bind s m args below meth c H locs 0 0 (vx_MQ below (va_Qi (fun r u => Q r u) (nk_B D cI cZ cL ad am b0) (nk_A ad am s.heap.size)) nk_XF args s 3 18 (nk_A ad am s.heap.size)) (F0 m 181 ls [.int t0])) : ∀ (σ : nk_C) (x2 : Int32) (x3 : Int32) (x4 : Int32) (x6 : Int32) (x7 : Int32), wJ_X9_bind_176 k181 σ x2 x3 x4 x6 x7 → ∀ (H : Heap) (locs : List Loc), nk_W D cI cZ cL ad am b0 σ H → va_S (nk_A ad am s.heap.size) s.heap H locs → ∀ (ls : Array Slot), lv_has ls 11 [(0, .ref (am 0)), (2, .int x2), (3, .int x3), (4, .int x4), (6, .int x6), (7, .int x7)] → W p l e rmX9_bind s m args below meth c H locs 0 0 (vx_MQ below (va_Qi (fun r u => Q r u) (nk_B D cI cZ cL ad am b0) (nk_A ad am s.heap.size)) nk_XF args s 3 18 (nk_A ad am s.heap.size)) (F0 m 176 ls []) := by
  obtain ⟨hx, hb, hml, hown, hts, hr, hlocks⟩ := id C0
  intro σ x2 x3 x4 x6 x7 hw H locs hW hS  ls hl
  refine lv_iconst (v := 1) hx hb dX9_bind_176 (by decide) ?_
  refine lv_goto (tgt := 181) hx hb dX9_bind_177 (by decide) ?_
  exact hk181 σ x2 x3 x4 x7 1 hw _ _ hW hS  _ (lv_sub hl [0, 1, 2, 3, 5] rfl)
set_option maxHeartbeats 4000000 in
set_option maxRecDepth 100000 in
theorem tJ_X9_bind_229 {p : Program} {l : Launch} {e : Env} {s : State} {m : MethodId} {args : Array Value} {below : List Frame} {meth : Method} {c : Code} {D : va_G} {cI cZ cG cL : ClassId} {ad am : Nat → Nat} {q1 q2 q3 b0 L : Nat} {xs : Nat → Int32} (C0 : gk_F p s m args meth c cX9_bind 11 (some .boolean) RX9) (hK : gk_K D cI cZ cG cL s) (hZ : nk_Z q1 q2 q3 b0 L xs (nk_A ad am s.heap.size) s s.heap) (htab : c.exceptionTable.toList = tableOf [(56, 148, 464, 138), (149, 278, 464, 138), (279, 463, 464, 138), (56, 148, 469, 140), (149, 278, 469, 140), (279, 463, 469, 140)]) (hfl : l.stackTraces = false) {Q : Int32 → nk_C → Prop} {k230 : nk_C → Int32 → Int32 → Int32 → Int32 → Int32 → Int32 → Prop} (hk230 : ∀ (σ : nk_C) (x2 : Int32) (x3 : Int32) (x4 : Int32) (x6 : Int32) (x8 : Int32) (t0 : Int32), k230 σ x2 x3 x4 x6 x8 t0 → ∀ (H : Heap) (locs : List Loc), nk_W D cI cZ cL ad am b0 σ H → va_S (nk_A ad am s.heap.size) s.heap H locs → ∀ (ls : Array Slot), lv_has ls 11 [(0, .ref (am 0)), (2, .int x2), (3, .int x3), (4, .int x4), (6, .int x6), (8, .int x8)] → W p l e rmX9_bind s m args below meth c H locs 0 0 (vx_MQ below (va_Qi (fun r u => Q r u) (nk_B D cI cZ cL ad am b0) (nk_A ad am s.heap.size)) nk_XF args s 3 18 (nk_A ad am s.heap.size)) (F0 m 230 ls [.int t0])) : ∀ (σ : nk_C) (x2 : Int32) (x3 : Int32) (x4 : Int32) (x6 : Int32) (x7 : Int32) (x8 : Int32), wJ_X9_bind_229 k230 σ x2 x3 x4 x6 x7 x8 → ∀ (H : Heap) (locs : List Loc), nk_W D cI cZ cL ad am b0 σ H → va_S (nk_A ad am s.heap.size) s.heap H locs → ∀ (ls : Array Slot), lv_has ls 11 [(0, .ref (am 0)), (2, .int x2), (3, .int x3), (4, .int x4), (6, .int x6), (7, .int x7), (8, .int x8)] → W p l e rmX9_bind s m args below meth c H locs 0 0 (vx_MQ below (va_Qi (fun r u => Q r u) (nk_B D cI cZ cL ad am b0) (nk_A ad am s.heap.size)) nk_XF args s 3 18 (nk_A ad am s.heap.size)) (F0 m 229 ls []) := by
  obtain ⟨hx, hb, hml, hown, hts, hr, hlocks⟩ := id C0
  intro σ x2 x3 x4 x6 x7 x8 hw H locs hW hS  ls hl
  refine lv_iconst (v := 0) hx hb dX9_bind_229 (by decide) ?_
  exact hk230 σ x2 x3 x4 x6 x8 0 hw _ _ hW hS  _ (lv_sub hl [0, 1, 2, 3, 4, 6] rfl)
set_option maxHeartbeats 4000000 in
set_option maxRecDepth 100000 in
theorem tJ_X9_bind_247 {p : Program} {l : Launch} {e : Env} {s : State} {m : MethodId} {args : Array Value} {below : List Frame} {meth : Method} {c : Code} {D : va_G} {cI cZ cG cL : ClassId} {ad am : Nat → Nat} {q1 q2 q3 b0 L : Nat} {xs : Nat → Int32} (C0 : gk_F p s m args meth c cX9_bind 11 (some .boolean) RX9) (hK : gk_K D cI cZ cG cL s) (hZ : nk_Z q1 q2 q3 b0 L xs (nk_A ad am s.heap.size) s s.heap) (htab : c.exceptionTable.toList = tableOf [(56, 148, 464, 138), (149, 278, 464, 138), (279, 463, 464, 138), (56, 148, 469, 140), (149, 278, 469, 140), (279, 463, 469, 140)]) (hfl : l.stackTraces = false) {Q : Int32 → nk_C → Prop} : ∀ (σ : nk_C) (x2 : Int32) (x3 : Int32) (x4 : Int32) (x6 : Int32) (x7 : Int32) (x8 : Int32), wJ_X9_bind_247 Q σ x2 x3 x4 x6 x7 x8 → ∀ (H : Heap) (locs : List Loc), nk_W D cI cZ cL ad am b0 σ H → va_S (nk_A ad am s.heap.size) s.heap H locs → ∀ (ls : Array Slot), lv_has ls 11 [(0, .ref (am 0)), (2, .int x2), (3, .int x3), (4, .int x4), (6, .int x6), (7, .int x7), (8, .int x8)] → W p l e rmX9_bind s m args below meth c H locs 0 0 (vx_MQ below (va_Qi (fun r u => Q r u) (nk_B D cI cZ cL ad am b0) (nk_A ad am s.heap.size)) nk_XF args s 3 18 (nk_A ad am s.heap.size)) (F0 m 247 ls []) := by
  obtain ⟨hx, hb, hml, hown, hts, hr, hlocks⟩ := id C0
  intro σ x2 x3 x4 x6 x7 x8 hw H locs hW hS  ls hl
  refine lv_aload_n hx hb dX9_bind_247 rfl (lv_at hl 0 rfl) ?_
  refine gk_get hx hb hts iwX9 hown hK.1 (nk_obj hW) rfl 0 (by decide) (hts _ fl_X9_10) (fun _ h9 => h9) rfl dX9_bind_248 ?_
  refine lv_iload_n hx hb dX9_bind_251 rfl (lv_at hl 1 rfl) ?_
  refine lv_iload_n hx hb dX9_bind_252 rfl (lv_at hl 2 rfl) ?_
  refine lv_iload hx hb dX9_bind_253 (lv_at hl 3 rfl) ?_
  refine nk_gTi ⟨hx, hb, hml, hown, hts⟩ (c_X8_setHolds l hfl D cI cZ cG cL ad q1 q2 q3 hw) (cwV 3 hts (gk_gV ml_X9_132 im_X8_setHolds se_X8_setHolds in_X8 co_X8_setHolds) rfl rfl rfl (by decide +kernel) ⟨Nat.le_of_ble_eq_true rfl, Nat.le_of_ble_eq_true rfl⟩) (gk_recv hK.1 (gk_o0 hW.1) rfl) hW hK hZ hS (nk_A.up hS.1) rfl hl.1 (rest := []) rfl (lv_room (Nat.le_of_ble_eq_true rfl)) dX9_bind_255 ⟨Nat.le_of_ble_eq_true rfl, Nat.le_of_ble_eq_true rfl⟩ (fun E ce q9 s255 H locs hT hW hk hS hc1 hc2 hc3 => ?_) (fun r255 s255 H locs hw hW hk hS => ?_)
  · rcases hT with ⟨rfl, hw⟩ | ⟨rfl, hw⟩
    · have hp : ∀ z ∈ ([⟨56, 148, 464, 138⟩] : List ExceptionTableEntry), covers z 255 = false ∨ (z.catchType ≠ 0 ∧ ∃ nm : String, (Cond.classLink RX9 z.catchType nm).before args s = true ∧ va_Nc gk_E2 nm s) := by
        intro z hz
        simp only [List.mem_cons, List.not_mem_nil, or_false] at hz
        subst hz
        exact Or.inl (by decide)
      refine vx_catch hown [⟨56, 148, 464, 138⟩] ⟨149, 278, 464, 138⟩ [⟨279, 463, 464, 138⟩, ⟨56, 148, 469, 140⟩, ⟨149, 278, 469, 140⟩, ⟨279, 463, 469, 140⟩] (by rw [htab]; rfl) hp (by decide) (by decide) (hts _ cl_X9_138) (va_Nw.use rfl (hZ.1.2.1 _ (by decide))) hc1 hc2 hc3 ?_
      refine lv_astore (lv' := [(8, .ref q9), (0, .ref (am 0)), (2, .int x2), (3, .int x3), (4, .int x4), (6, .int x6), (7, .int x7)]) hx hb dX9_bind_464 hl (by decide) rfl (fun ls hl => ?_)
      refine lv_iload hx hb dX9_bind_466 (lv_at hl 5 rfl) ?_
      refine W.widen (k := 3) (n := 18) (Nat.le_of_ble_eq_true rfl) (Nat.le_of_ble_eq_true rfl) ?_
      refine vx_ret ?_
      obtain ⟨hz, hw⟩ := hw
      exact nk_retz C0 hz hw hW hS dX9_bind_468
    · have hp : ∀ z ∈ ([⟨56, 148, 464, 138⟩, ⟨149, 278, 464, 138⟩, ⟨279, 463, 464, 138⟩, ⟨56, 148, 469, 140⟩] : List ExceptionTableEntry), covers z 255 = false ∨ (z.catchType ≠ 0 ∧ ∃ nm : String, (Cond.classLink RX9 z.catchType nm).before args s = true ∧ va_Nc gk_E3 nm s) := by
        intro z hz
        simp only [List.mem_cons, List.not_mem_nil, or_false] at hz
        rcases hz with rfl | rfl | rfl | rfl
        · exact Or.inl (by decide)
        · exact Or.inr ⟨by decide, gk_E2, hts _ cl_X9_138, hZ.2.2.2.2.1.2.2.2⟩
        · exact Or.inl (by decide)
        · exact Or.inl (by decide)
      refine vx_catch hown [⟨56, 148, 464, 138⟩, ⟨149, 278, 464, 138⟩, ⟨279, 463, 464, 138⟩, ⟨56, 148, 469, 140⟩] ⟨149, 278, 469, 140⟩ [⟨279, 463, 469, 140⟩] (by rw [htab]; rfl) hp (by decide) (by decide) (hts _ cl_X9_140) (va_Nw.use rfl (hZ.1.2.1 _ (by decide))) hc1 hc2 hc3 ?_
      refine lv_astore (lv' := [(8, .ref q9), (0, .ref (am 0)), (2, .int x2), (3, .int x3), (4, .int x4), (6, .int x6), (7, .int x7)]) hx hb dX9_bind_469 hl (by decide) rfl (fun ls hl => ?_)
      refine lv_iload hx hb dX9_bind_471 (lv_at hl 6 rfl) ?_
      refine lv_if_eq (tgt := 485) hx hb dX9_bind_473 (by decide) (fun c473 => ?_) (fun c473 => ?_)
      · have hw := hw.1 c473
        refine lv_iconst (v := 0) hx hb dX9_bind_485 (by decide) ?_
        refine W.widen (k := 3) (n := 18) (Nat.le_of_ble_eq_true rfl) (Nat.le_of_ble_eq_true rfl) ?_
        refine vx_ret ?_
        exact nk_retz C0 (by decide) hw hW hS dX9_bind_486
      · have hw := hw.2 c473
        refine lv_iload hx hb dX9_bind_476 (lv_at hl 5 rfl) ?_
        refine lv_if_ne (tgt := 485) hx hb dX9_bind_478 (by decide) (fun c478 => ?_) (fun c478 => ?_)
        · have hw := hw.1 c478
          refine lv_iconst (v := 0) hx hb dX9_bind_485 (by decide) ?_
          refine W.widen (k := 3) (n := 18) (Nat.le_of_ble_eq_true rfl) (Nat.le_of_ble_eq_true rfl) ?_
          refine vx_ret ?_
          exact nk_retz C0 (by decide) hw hW hS dX9_bind_486
        · have hw := hw.2 c478
          refine lv_iconst (v := 1) hx hb dX9_bind_481 (by decide) ?_
          refine lv_goto (tgt := 486) hx hb dX9_bind_482 (by decide) ?_
          refine W.widen (k := 3) (n := 18) (Nat.le_of_ble_eq_true rfl) (Nat.le_of_ble_eq_true rfl) ?_
          refine vx_ret ?_
          exact nk_retz C0 (by decide) hw hW hS dX9_bind_486
  · refine lv_iload hx hb dX9_bind_258 (lv_at hl 6 rfl) ?_
    refine lv_icmp_ne (tgt := 277) hx hb dX9_bind_260 (by decide) (fun c260 => ?_) (fun c260 => ?_)
    · have hw := hw.1 c260
      refine lv_iconst (v := 0) hx hb dX9_bind_277 (by decide) ?_
      refine W.widen (k := 3) (n := 18) (Nat.le_of_ble_eq_true rfl) (Nat.le_of_ble_eq_true rfl) ?_
      refine vx_ret ?_
      exact nk_retz C0 (by decide) hw hW hS dX9_bind_278
    · have hw := hw.2 c260
      refine lv_iload hx hb dX9_bind_263 (lv_at hl 4 rfl) ?_
      refine lv_if_ne (tgt := 277) hx hb dX9_bind_265 (by decide) (fun c265 => ?_) (fun c265 => ?_)
      · have hw := hw.1 c265
        refine lv_iconst (v := 0) hx hb dX9_bind_277 (by decide) ?_
        refine W.widen (k := 3) (n := 18) (Nat.le_of_ble_eq_true rfl) (Nat.le_of_ble_eq_true rfl) ?_
        refine vx_ret ?_
        exact nk_retz C0 (by decide) hw hW hS dX9_bind_278
      · have hw := hw.2 c265
        refine lv_iload hx hb dX9_bind_268 (lv_at hl 5 rfl) ?_
        refine lv_if_ne (tgt := 277) hx hb dX9_bind_270 (by decide) (fun c270 => ?_) (fun c270 => ?_)
        · have hw := hw.1 c270
          refine lv_iconst (v := 0) hx hb dX9_bind_277 (by decide) ?_
          refine W.widen (k := 3) (n := 18) (Nat.le_of_ble_eq_true rfl) (Nat.le_of_ble_eq_true rfl) ?_
          refine vx_ret ?_
          exact nk_retz C0 (by decide) hw hW hS dX9_bind_278
        · have hw := hw.2 c270
          refine lv_iconst (v := 1) hx hb dX9_bind_273 (by decide) ?_
          refine lv_goto (tgt := 278) hx hb dX9_bind_274 (by decide) ?_
          refine W.widen (k := 3) (n := 18) (Nat.le_of_ble_eq_true rfl) (Nat.le_of_ble_eq_true rfl) ?_
          refine vx_ret ?_
          exact nk_retz C0 (by decide) hw hW hS dX9_bind_278
set_option maxHeartbeats 4000000 in
set_option maxRecDepth 100000 in
theorem tJ_X9_bind_230 {p : Program} {l : Launch} {e : Env} {s : State} {m : MethodId} {args : Array Value} {below : List Frame} {meth : Method} {c : Code} {D : va_G} {cI cZ cG cL : ClassId} {ad am : Nat → Nat} {q1 q2 q3 b0 L : Nat} {xs : Nat → Int32} (C0 : gk_F p s m args meth c cX9_bind 11 (some .boolean) RX9) (hK : gk_K D cI cZ cG cL s) (hZ : nk_Z q1 q2 q3 b0 L xs (nk_A ad am s.heap.size) s s.heap) (htab : c.exceptionTable.toList = tableOf [(56, 148, 464, 138), (149, 278, 464, 138), (279, 463, 464, 138), (56, 148, 469, 140), (149, 278, 469, 140), (279, 463, 469, 140)]) (hfl : l.stackTraces = false) {Q : Int32 → nk_C → Prop} : ∀ (σ : nk_C) (x2 : Int32) (x3 : Int32) (x4 : Int32) (x6 : Int32) (x8 : Int32) (t0 : Int32), wJ_X9_bind_230 Q σ x2 x3 x4 x6 x8 t0 → ∀ (H : Heap) (locs : List Loc), nk_W D cI cZ cL ad am b0 σ H → va_S (nk_A ad am s.heap.size) s.heap H locs → ∀ (ls : Array Slot), lv_has ls 11 [(0, .ref (am 0)), (2, .int x2), (3, .int x3), (4, .int x4), (6, .int x6), (8, .int x8)] → W p l e rmX9_bind s m args below meth c H locs 0 0 (vx_MQ below (va_Qi (fun r u => Q r u) (nk_B D cI cZ cL ad am b0) (nk_A ad am s.heap.size)) nk_XF args s 3 18 (nk_A ad am s.heap.size)) (F0 m 230 ls [.int t0]) := by
  obtain ⟨hx, hb, hml, hown, hts, hr, hlocks⟩ := id C0
  intro σ x2 x3 x4 x6 x8 t0 hw H locs hW hS  ls hl
  refine lv_istore (lv' := [(7, .int t0), (0, .ref (am 0)), (2, .int x2), (3, .int x3), (4, .int x4), (6, .int x6), (8, .int x8)]) hx hb dX9_bind_230 hl (by decide) rfl (fun ls hl => ?_)
  refine lv_iload hx hb dX9_bind_232 (lv_at hl 0 rfl) ?_
  refine lv_if_eq (tgt := 247) hx hb dX9_bind_234 (by decide) (fun c234 => ?_) (fun c234 => ?_)
  · have hw := hw.1 c234
    refine tJ_X9_bind_247 C0 hK hZ htab hfl  σ x2 x3 x4 x6 t0 x8 hw _ _ hW hS  _ (lv_sub hl [1, 2, 3, 4, 5, 0, 6] rfl)
  · have hw := hw.2 c234
    refine lv_aload_n hx hb dX9_bind_237 rfl (lv_at hl 1 rfl) ?_
    refine gk_get hx hb hts iwX9 hown hK.1 (nk_obj hW) rfl 10 (by decide) (hts _ fl_X9_28) (fun _ h9 => h9) rfl dX9_bind_238 ?_
    refine lv_iload_n hx hb dX9_bind_241 rfl (lv_at hl 2 rfl) ?_
    obtain ⟨hin, hw⟩ := hw
    refine nk_aalz hx hb hK (nk_o10 hW) hin (by decide) dX9_bind_242 (fun hz242 => ?_)
    refine lv_iload_n hx hb dX9_bind_243 rfl (lv_at hl 3 rfl) ?_
    refine lv_iload hx hb dX9_bind_244 (lv_at hl 6 rfl) ?_
    obtain ⟨hin, hw⟩ := hw
    refine gk_zast hx hb hK.1 hS (nk_A.in (tk_z_in hz242.1 hz242.2)) 1 (nk_zr hW hz242) rfl hin dX9_bind_246 (fun H locs h1 _ oq hS => ?_)
    have hW := hW.setZ (k := (26 + x2.toNatClampNeg)) hz242 h1 oq
    obtain ⟨σ246, eσ246⟩ : ∃ z, z = nk_st σ (26 + x2.toNatClampNeg) x3 (vp_nar .boolean x8) := ⟨_, rfl⟩
    have hW := nk_stW eσ246 hW
    have hw := hw σ246 eσ246
    refine tJ_X9_bind_247 C0 hK hZ htab hfl  σ246 x2 x3 x4 x6 t0 x8 hw _ _ hW hS  _ (lv_sub hl [1, 2, 3, 4, 5, 0, 6] rfl)
set_option maxHeartbeats 4000000 in
set_option maxRecDepth 100000 in
theorem tJ_X9_bind_208 {p : Program} {l : Launch} {e : Env} {s : State} {m : MethodId} {args : Array Value} {below : List Frame} {meth : Method} {c : Code} {D : va_G} {cI cZ cG cL : ClassId} {ad am : Nat → Nat} {q1 q2 q3 b0 L : Nat} {xs : Nat → Int32} (C0 : gk_F p s m args meth c cX9_bind 11 (some .boolean) RX9) (hK : gk_K D cI cZ cG cL s) (hZ : nk_Z q1 q2 q3 b0 L xs (nk_A ad am s.heap.size) s s.heap) (htab : c.exceptionTable.toList = tableOf [(56, 148, 464, 138), (149, 278, 464, 138), (279, 463, 464, 138), (56, 148, 469, 140), (149, 278, 469, 140), (279, 463, 469, 140)]) (hfl : l.stackTraces = false) {Q : Int32 → nk_C → Prop} : ∀ (σ : nk_C) (x2 : Int32) (x3 : Int32) (x4 : Int32) (x6 : Int32) (x7 : Int32) (x8 : Int32), wJ_X9_bind_208 Q σ x2 x3 x4 x6 x7 x8 → ∀ (H : Heap) (locs : List Loc), nk_W D cI cZ cL ad am b0 σ H → va_S (nk_A ad am s.heap.size) s.heap H locs → ∀ (ls : Array Slot), lv_has ls 11 [(0, .ref (am 0)), (2, .int x2), (3, .int x3), (4, .int x4), (6, .int x6), (7, .int x7), (8, .int x8)] → W p l e rmX9_bind s m args below meth c H locs 0 0 (vx_MQ below (va_Qi (fun r u => Q r u) (nk_B D cI cZ cL ad am b0) (nk_A ad am s.heap.size)) nk_XF args s 3 18 (nk_A ad am s.heap.size)) (F0 m 208 ls []) := by
  obtain ⟨hx, hb, hml, hown, hts, hr, hlocks⟩ := id C0
  intro σ x2 x3 x4 x6 x7 x8 hw H locs hW hS  ls hl
  refine lv_iload hx hb dX9_bind_208 (lv_at hl 4 rfl) ?_
  refine lv_if_ne (tgt := 229) hx hb dX9_bind_210 (by decide) (fun c210 => ?_) (fun c210 => ?_)
  · have hw := hw.1 c210
    refine tJ_X9_bind_229 C0 hK hZ htab hfl (hk230 := ?_) σ x2 x3 x4 x6 x7 x8 hw _ _ hW hS  _ hl
    · intro σ x2 x3 x4 x6 x8 t0 hw H locs hW hS  ls hl
      refine tJ_X9_bind_230 C0 hK hZ htab hfl  σ x2 x3 x4 x6 x8 t0 hw _ _ hW hS  _ hl
  · have hw := hw.2 c210
    refine lv_iload hx hb dX9_bind_213 (lv_at hl 3 rfl) ?_
    refine lv_if_eq (tgt := 229) hx hb dX9_bind_215 (by decide) (fun c215 => ?_) (fun c215 => ?_)
    · have hw := hw.1 c215
      refine tJ_X9_bind_229 C0 hK hZ htab hfl (hk230 := ?_) σ x2 x3 x4 x6 x7 x8 hw _ _ hW hS  _ hl
      · intro σ x2 x3 x4 x6 x8 t0 hw H locs hW hS  ls hl
        refine tJ_X9_bind_230 C0 hK hZ htab hfl  σ x2 x3 x4 x6 x8 t0 hw _ _ hW hS  _ hl
    · have hw := hw.2 c215
      refine lv_aload_n hx hb dX9_bind_218 rfl (lv_at hl 0 rfl) ?_
      refine nk_callRi ⟨hx, hb, hml, hown, hts⟩ (c_X9_anyApart l D cI cZ cG cL ad am q1 q2 q3 b0 L xs hw) (cwV 0 hts (gk_gV ml_X9_128 im_X9_anyApart se_X9_anyApart in_X9 co_X9_anyApart) rfl rfl rfl (by decide +kernel) ⟨Nat.le_of_ble_eq_true rfl, Nat.le_of_ble_eq_true rfl⟩) (gk_recv hK.1 (nk_obj hW) rfl) hW hK hZ trivial hS (nk_A.up hS.1) rfl hl.1 (rest := []) rfl (lv_room (Nat.le_of_ble_eq_true rfl)) dX9_bind_219 ⟨Nat.le_of_ble_eq_true rfl, Nat.le_of_ble_eq_true rfl⟩ (fun r219 H locs hw hW _ hk hS => ?_)
      refine lv_if_eq (tgt := 229) hx hb dX9_bind_222 (by decide) (fun c222 => ?_) (fun c222 => ?_)
      · have hw := hw.1 c222
        refine tJ_X9_bind_229 C0 hK hZ htab hfl (hk230 := ?_) σ x2 x3 x4 x6 x7 x8 hw _ _ hW hS  _ hl
        · intro σ x2 x3 x4 x6 x8 t0 hw H locs hW hS  ls hl
          refine tJ_X9_bind_230 C0 hK hZ htab hfl  σ x2 x3 x4 x6 x8 t0 hw _ _ hW hS  _ hl
      · have hw := hw.2 c222
        refine lv_iconst (v := 1) hx hb dX9_bind_225 (by decide) ?_
        refine lv_goto (tgt := 230) hx hb dX9_bind_226 (by decide) ?_
        refine tJ_X9_bind_230 C0 hK hZ htab hfl  σ x2 x3 x4 x6 x8 1 hw _ _ hW hS  _ (lv_sub hl [0, 1, 2, 3, 4, 6] rfl)
set_option maxHeartbeats 4000000 in
set_option maxRecDepth 100000 in
theorem tJ_X9_bind_181 {p : Program} {l : Launch} {e : Env} {s : State} {m : MethodId} {args : Array Value} {below : List Frame} {meth : Method} {c : Code} {D : va_G} {cI cZ cG cL : ClassId} {ad am : Nat → Nat} {q1 q2 q3 b0 L : Nat} {xs : Nat → Int32} (C0 : gk_F p s m args meth c cX9_bind 11 (some .boolean) RX9) (hK : gk_K D cI cZ cG cL s) (hZ : nk_Z q1 q2 q3 b0 L xs (nk_A ad am s.heap.size) s s.heap) (htab : c.exceptionTable.toList = tableOf [(56, 148, 464, 138), (149, 278, 464, 138), (279, 463, 464, 138), (56, 148, 469, 140), (149, 278, 469, 140), (279, 463, 469, 140)]) (hfl : l.stackTraces = false) {Q : Int32 → nk_C → Prop} : ∀ (σ : nk_C) (x2 : Int32) (x3 : Int32) (x4 : Int32) (x7 : Int32) (t0 : Int32), wJ_X9_bind_181 Q σ x2 x3 x4 x7 t0 → ∀ (H : Heap) (locs : List Loc), nk_W D cI cZ cL ad am b0 σ H → va_S (nk_A ad am s.heap.size) s.heap H locs → ∀ (ls : Array Slot), lv_has ls 11 [(0, .ref (am 0)), (2, .int x2), (3, .int x3), (4, .int x4), (7, .int x7)] → W p l e rmX9_bind s m args below meth c H locs 0 0 (vx_MQ below (va_Qi (fun r u => Q r u) (nk_B D cI cZ cL ad am b0) (nk_A ad am s.heap.size)) nk_XF args s 3 18 (nk_A ad am s.heap.size)) (F0 m 181 ls [.int t0]) := by
  obtain ⟨hx, hb, hml, hown, hts, hr, hlocks⟩ := id C0
  intro σ x2 x3 x4 x7 t0 hw H locs hW hS  ls hl
  refine lv_istore (lv' := [(6, .int t0), (0, .ref (am 0)), (2, .int x2), (3, .int x3), (4, .int x4), (7, .int x7)]) hx hb dX9_bind_181 hl (by decide) rfl (fun ls hl => ?_)
  refine lv_aload_n hx hb dX9_bind_183 rfl (lv_at hl 1 rfl) ?_
  refine gk_get hx hb hts iwX9 hown hK.1 (nk_obj hW) rfl 10 (by decide) (hts _ fl_X9_28) (fun _ h9 => h9) rfl dX9_bind_184 ?_
  refine lv_iload_n hx hb dX9_bind_187 rfl (lv_at hl 2 rfl) ?_
  obtain ⟨hin, hw⟩ := hw
  refine nk_aalz hx hb hK (nk_o10 hW) hin (by decide) dX9_bind_188 (fun hz188 => ?_)
  refine lv_iload_n hx hb dX9_bind_189 rfl (lv_at hl 3 rfl) ?_
  obtain ⟨hin, hw⟩ := hw
  refine gk_zald hx hb hK.1 1 (nk_zr hW hz188) rfl hin dX9_bind_190 ?_
  refine lv_istore (lv' := [(8, .int (σ.2.1 (26 + x2.toNatClampNeg) x3.toNatClampNeg)), (6, .int t0), (0, .ref (am 0)), (2, .int x2), (3, .int x3), (4, .int x4), (7, .int x7)]) hx hb dX9_bind_191 hl (by decide) rfl (fun ls hl => ?_)
  refine lv_iload hx hb dX9_bind_193 (lv_at hl 1 rfl) ?_
  refine lv_if_ne (tgt := 208) hx hb dX9_bind_195 (by decide) (fun c195 => ?_) (fun c195 => ?_)
  · have hw := hw.1 c195
    refine tJ_X9_bind_208 C0 hK hZ htab hfl  σ x2 x3 x4 t0 x7 (σ.2.1 (26 + x2.toNatClampNeg) x3.toNatClampNeg) hw _ _ hW hS  _ (lv_sub hl [2, 3, 4, 5, 1, 6, 0] rfl)
  · have hw := hw.2 c195
    refine lv_aload_n hx hb dX9_bind_198 rfl (lv_at hl 2 rfl) ?_
    refine gk_get hx hb hts iwX9 hown hK.1 (nk_obj hW) rfl 10 (by decide) (hts _ fl_X9_28) (fun _ h9 => h9) rfl dX9_bind_199 ?_
    refine lv_iload_n hx hb dX9_bind_202 rfl (lv_at hl 3 rfl) ?_
    obtain ⟨hin, hw⟩ := hw
    refine nk_aalz hx hb hK (nk_o10 hW) hin (by decide) dX9_bind_203 (fun hz203 => ?_)
    refine lv_iload_n hx hb dX9_bind_204 rfl (lv_at hl 4 rfl) ?_
    refine lv_iload hx hb dX9_bind_205 (lv_at hl 5 rfl) ?_
    obtain ⟨hin, hw⟩ := hw
    refine gk_zast hx hb hK.1 hS (nk_A.in (tk_z_in hz203.1 hz203.2)) 1 (nk_zr hW hz203) rfl hin dX9_bind_207 (fun H locs h1 _ oq hS => ?_)
    have hW := hW.setZ (k := (26 + x2.toNatClampNeg)) hz203 h1 oq
    obtain ⟨σ207, eσ207⟩ : ∃ z, z = nk_st σ (26 + x2.toNatClampNeg) x3 (vp_nar .boolean x4) := ⟨_, rfl⟩
    have hW := nk_stW eσ207 hW
    have hw := hw σ207 eσ207
    refine tJ_X9_bind_208 C0 hK hZ htab hfl  σ207 x2 x3 x4 t0 x7 (σ.2.1 (26 + x2.toNatClampNeg) x3.toNatClampNeg) hw _ _ hW hS  _ (lv_sub hl [2, 3, 4, 5, 1, 6, 0] rfl)
set_option maxHeartbeats 4000000 in
set_option maxRecDepth 100000 in
theorem tJ_X9_bind_180 {p : Program} {l : Launch} {e : Env} {s : State} {m : MethodId} {args : Array Value} {below : List Frame} {meth : Method} {c : Code} {D : va_G} {cI cZ cG cL : ClassId} {ad am : Nat → Nat} {q1 q2 q3 b0 L : Nat} {xs : Nat → Int32} (C0 : gk_F p s m args meth c cX9_bind 11 (some .boolean) RX9) (hK : gk_K D cI cZ cG cL s) (hZ : nk_Z q1 q2 q3 b0 L xs (nk_A ad am s.heap.size) s s.heap) (htab : c.exceptionTable.toList = tableOf [(56, 148, 464, 138), (149, 278, 464, 138), (279, 463, 464, 138), (56, 148, 469, 140), (149, 278, 469, 140), (279, 463, 469, 140)]) (hfl : l.stackTraces = false) {Q : Int32 → nk_C → Prop} {k181 : nk_C → Int32 → Int32 → Int32 → Int32 → Int32 → Prop} (hk181 : ∀ (σ : nk_C) (x2 : Int32) (x3 : Int32) (x4 : Int32) (x7 : Int32) (t0 : Int32), k181 σ x2 x3 x4 x7 t0 → ∀ (H : Heap) (locs : List Loc), nk_W D cI cZ cL ad am b0 σ H → va_S (nk_A ad am s.heap.size) s.heap H locs → ∀ (ls : Array Slot), lv_has ls 11 [(0, .ref (am 0)), (2, .int x2), (3, .int x3), (4, .int x4), (7, .int x7)] → W p l e rmX9_bind s m args below meth c H locs 0 0 (vx_MQ below (va_Qi (fun r u => Q r u) (nk_B D cI cZ cL ad am b0) (nk_A ad am s.heap.size)) nk_XF args s 3 18 (nk_A ad am s.heap.size)) (F0 m 181 ls [.int t0])) : ∀ (σ : nk_C) (x2 : Int32) (x3 : Int32) (x4 : Int32) (x6 : Int32) (x7 : Int32), wJ_X9_bind_180 k181 σ x2 x3 x4 x6 x7 → ∀ (H : Heap) (locs : List Loc), nk_W D cI cZ cL ad am b0 σ H → va_S (nk_A ad am s.heap.size) s.heap H locs → ∀ (ls : Array Slot), lv_has ls 11 [(0, .ref (am 0)), (2, .int x2), (3, .int x3), (4, .int x4), (6, .int x6), (7, .int x7)] → W p l e rmX9_bind s m args below meth c H locs 0 0 (vx_MQ below (va_Qi (fun r u => Q r u) (nk_B D cI cZ cL ad am b0) (nk_A ad am s.heap.size)) nk_XF args s 3 18 (nk_A ad am s.heap.size)) (F0 m 180 ls []) := by
  obtain ⟨hx, hb, hml, hown, hts, hr, hlocks⟩ := id C0
  intro σ x2 x3 x4 x6 x7 hw H locs hW hS  ls hl
  refine lv_iconst (v := 0) hx hb dX9_bind_180 (by decide) ?_
  exact hk181 σ x2 x3 x4 x7 0 hw _ _ hW hS  _ (lv_sub hl [0, 1, 2, 3, 5] rfl)
set_option maxHeartbeats 4000000 in
set_option maxRecDepth 100000 in
theorem tJ_X9_bind_104 {p : Program} {l : Launch} {e : Env} {s : State} {m : MethodId} {args : Array Value} {below : List Frame} {meth : Method} {c : Code} {D : va_G} {cI cZ cG cL : ClassId} {ad am : Nat → Nat} {q1 q2 q3 b0 L : Nat} {xs : Nat → Int32} (C0 : gk_F p s m args meth c cX9_bind 11 (some .boolean) RX9) (hK : gk_K D cI cZ cG cL s) (hZ : nk_Z q1 q2 q3 b0 L xs (nk_A ad am s.heap.size) s s.heap) (htab : c.exceptionTable.toList = tableOf [(56, 148, 464, 138), (149, 278, 464, 138), (279, 463, 464, 138), (56, 148, 469, 140), (149, 278, 469, 140), (279, 463, 469, 140)]) (hfl : l.stackTraces = false) {Q : Int32 → nk_C → Prop} {k105 : nk_C → Int32 → Int32 → Int32 → Int32 → Int32 → Int32 → Prop} (hk105 : ∀ (σ : nk_C) (x1 : Int32) (x2 : Int32) (x4 : Int32) (x6 : Int32) (x8 : Int32) (t0 : Int32), k105 σ x1 x2 x4 x6 x8 t0 → ∀ (H : Heap) (locs : List Loc), nk_W D cI cZ cL ad am b0 σ H → va_S (nk_A ad am s.heap.size) s.heap H locs → ∀ (ls : Array Slot), lv_has ls 11 [(0, .ref (am 0)), (1, .int x1), (2, .int x2), (4, .int x4), (6, .int x6), (8, .int x8)] → W p l e rmX9_bind s m args below meth c H locs 0 0 (vx_MQ below (va_Qi (fun r u => Q r u) (nk_B D cI cZ cL ad am b0) (nk_A ad am s.heap.size)) nk_XF args s 3 18 (nk_A ad am s.heap.size)) (F0 m 105 ls [.int t0])) : ∀ (σ : nk_C) (x1 : Int32) (x2 : Int32) (x4 : Int32) (x6 : Int32) (x7 : Int32) (x8 : Int32), wJ_X9_bind_104 k105 σ x1 x2 x4 x6 x7 x8 → ∀ (H : Heap) (locs : List Loc), nk_W D cI cZ cL ad am b0 σ H → va_S (nk_A ad am s.heap.size) s.heap H locs → ∀ (ls : Array Slot), lv_has ls 11 [(0, .ref (am 0)), (1, .int x1), (2, .int x2), (4, .int x4), (6, .int x6), (7, .int x7), (8, .int x8)] → W p l e rmX9_bind s m args below meth c H locs 0 0 (vx_MQ below (va_Qi (fun r u => Q r u) (nk_B D cI cZ cL ad am b0) (nk_A ad am s.heap.size)) nk_XF args s 3 18 (nk_A ad am s.heap.size)) (F0 m 104 ls []) := by
  obtain ⟨hx, hb, hml, hown, hts, hr, hlocks⟩ := id C0
  intro σ x1 x2 x4 x6 x7 x8 hw H locs hW hS  ls hl
  refine lv_iconst (v := 0) hx hb dX9_bind_104 (by decide) ?_
  exact hk105 σ x1 x2 x4 x6 x8 0 hw _ _ hW hS  _ (lv_sub hl [0, 1, 2, 3, 4, 6] rfl)
set_option maxHeartbeats 4000000 in
set_option maxRecDepth 100000 in
theorem tJ_X9_bind_122 {p : Program} {l : Launch} {e : Env} {s : State} {m : MethodId} {args : Array Value} {below : List Frame} {meth : Method} {c : Code} {D : va_G} {cI cZ cG cL : ClassId} {ad am : Nat → Nat} {q1 q2 q3 b0 L : Nat} {xs : Nat → Int32} (C0 : gk_F p s m args meth c cX9_bind 11 (some .boolean) RX9) (hK : gk_K D cI cZ cG cL s) (hZ : nk_Z q1 q2 q3 b0 L xs (nk_A ad am s.heap.size) s s.heap) (htab : c.exceptionTable.toList = tableOf [(56, 148, 464, 138), (149, 278, 464, 138), (279, 463, 464, 138), (56, 148, 469, 140), (149, 278, 469, 140), (279, 463, 469, 140)]) (hfl : l.stackTraces = false) {Q : Int32 → nk_C → Prop} : ∀ (σ : nk_C) (x1 : Int32) (x2 : Int32) (x4 : Int32) (x6 : Int32) (x7 : Int32) (x8 : Int32), wJ_X9_bind_122 Q σ x1 x2 x4 x6 x7 x8 → ∀ (H : Heap) (locs : List Loc), nk_W D cI cZ cL ad am b0 σ H → va_S (nk_A ad am s.heap.size) s.heap H locs → ∀ (ls : Array Slot), lv_has ls 11 [(0, .ref (am 0)), (1, .int x1), (2, .int x2), (4, .int x4), (6, .int x6), (7, .int x7), (8, .int x8)] → W p l e rmX9_bind s m args below meth c H locs 0 0 (vx_MQ below (va_Qi (fun r u => Q r u) (nk_B D cI cZ cL ad am b0) (nk_A ad am s.heap.size)) nk_XF args s 3 18 (nk_A ad am s.heap.size)) (F0 m 122 ls []) := by
  obtain ⟨hx, hb, hml, hown, hts, hr, hlocks⟩ := id C0
  intro σ x1 x2 x4 x6 x7 x8 hw H locs hW hS  ls hl
  refine lv_aload_n hx hb dX9_bind_122 rfl (lv_at hl 0 rfl) ?_
  refine gk_get hx hb hts iwX9 hown hK.1 (nk_obj hW) rfl 0 (by decide) (hts _ fl_X9_10) (fun _ h9 => h9) rfl dX9_bind_123 ?_
  refine lv_iload_n hx hb dX9_bind_126 rfl (lv_at hl 1 rfl) ?_
  refine lv_iload_n hx hb dX9_bind_127 rfl (lv_at hl 2 rfl) ?_
  refine lv_iload hx hb dX9_bind_128 (lv_at hl 3 rfl) ?_
  refine nk_gTi ⟨hx, hb, hml, hown, hts⟩ (c_X8_setRole l hfl D cI cZ cG cL ad q1 q2 q3 hw) (cwV 3 hts (gk_gV ml_X9_124 im_X8_setRole se_X8_setRole in_X8 co_X8_setRole) rfl rfl rfl (by decide +kernel) ⟨Nat.le_of_ble_eq_true rfl, Nat.le_of_ble_eq_true rfl⟩) (gk_recv hK.1 (gk_o0 hW.1) rfl) hW hK hZ hS (nk_A.up hS.1) rfl hl.1 (rest := []) rfl (lv_room (Nat.le_of_ble_eq_true rfl)) dX9_bind_130 ⟨Nat.le_of_ble_eq_true rfl, Nat.le_of_ble_eq_true rfl⟩ (fun E ce q9 s130 H locs hT hW hk hS hc1 hc2 hc3 => ?_) (fun r130 s130 H locs hw hW hk hS => ?_)
  · rcases hT with ⟨rfl, hw⟩ | ⟨rfl, hw⟩
    · refine vx_catch hown [] ⟨56, 148, 464, 138⟩ [⟨149, 278, 464, 138⟩, ⟨279, 463, 464, 138⟩, ⟨56, 148, 469, 140⟩, ⟨149, 278, 469, 140⟩, ⟨279, 463, 469, 140⟩] (by rw [htab]; rfl) (fun z hz => nomatch hz) (by decide) (by decide) (hts _ cl_X9_138) (va_Nw.use rfl (hZ.1.2.1 _ (by decide))) hc1 hc2 hc3 ?_
      refine lv_astore (lv' := [(8, .ref q9), (0, .ref (am 0)), (1, .int x1), (2, .int x2), (4, .int x4), (6, .int x6), (7, .int x7)]) hx hb dX9_bind_464 hl (by decide) rfl (fun ls hl => ?_)
      refine lv_iload hx hb dX9_bind_466 (lv_at hl 5 rfl) ?_
      refine W.widen (k := 3) (n := 18) (Nat.le_of_ble_eq_true rfl) (Nat.le_of_ble_eq_true rfl) ?_
      refine vx_ret ?_
      obtain ⟨hz, hw⟩ := hw
      exact nk_retz C0 hz hw hW hS dX9_bind_468
    · have hp : ∀ z ∈ ([⟨56, 148, 464, 138⟩, ⟨149, 278, 464, 138⟩, ⟨279, 463, 464, 138⟩] : List ExceptionTableEntry), covers z 130 = false ∨ (z.catchType ≠ 0 ∧ ∃ nm : String, (Cond.classLink RX9 z.catchType nm).before args s = true ∧ va_Nc gk_E3 nm s) := by
        intro z hz
        simp only [List.mem_cons, List.not_mem_nil, or_false] at hz
        rcases hz with rfl | rfl | rfl
        · exact Or.inr ⟨by decide, gk_E2, hts _ cl_X9_138, hZ.2.2.2.2.1.2.2.2⟩
        · exact Or.inl (by decide)
        · exact Or.inl (by decide)
      refine vx_catch hown [⟨56, 148, 464, 138⟩, ⟨149, 278, 464, 138⟩, ⟨279, 463, 464, 138⟩] ⟨56, 148, 469, 140⟩ [⟨149, 278, 469, 140⟩, ⟨279, 463, 469, 140⟩] (by rw [htab]; rfl) hp (by decide) (by decide) (hts _ cl_X9_140) (va_Nw.use rfl (hZ.1.2.1 _ (by decide))) hc1 hc2 hc3 ?_
      refine lv_astore (lv' := [(8, .ref q9), (0, .ref (am 0)), (1, .int x1), (2, .int x2), (4, .int x4), (6, .int x6), (7, .int x7)]) hx hb dX9_bind_469 hl (by decide) rfl (fun ls hl => ?_)
      refine lv_iload hx hb dX9_bind_471 (lv_at hl 6 rfl) ?_
      refine lv_if_eq (tgt := 485) hx hb dX9_bind_473 (by decide) (fun c473 => ?_) (fun c473 => ?_)
      · have hw := hw.1 c473
        refine lv_iconst (v := 0) hx hb dX9_bind_485 (by decide) ?_
        refine W.widen (k := 3) (n := 18) (Nat.le_of_ble_eq_true rfl) (Nat.le_of_ble_eq_true rfl) ?_
        refine vx_ret ?_
        exact nk_retz C0 (by decide) hw hW hS dX9_bind_486
      · have hw := hw.2 c473
        refine lv_iload hx hb dX9_bind_476 (lv_at hl 5 rfl) ?_
        refine lv_if_ne (tgt := 485) hx hb dX9_bind_478 (by decide) (fun c478 => ?_) (fun c478 => ?_)
        · have hw := hw.1 c478
          refine lv_iconst (v := 0) hx hb dX9_bind_485 (by decide) ?_
          refine W.widen (k := 3) (n := 18) (Nat.le_of_ble_eq_true rfl) (Nat.le_of_ble_eq_true rfl) ?_
          refine vx_ret ?_
          exact nk_retz C0 (by decide) hw hW hS dX9_bind_486
        · have hw := hw.2 c478
          refine lv_iconst (v := 1) hx hb dX9_bind_481 (by decide) ?_
          refine lv_goto (tgt := 486) hx hb dX9_bind_482 (by decide) ?_
          refine W.widen (k := 3) (n := 18) (Nat.le_of_ble_eq_true rfl) (Nat.le_of_ble_eq_true rfl) ?_
          refine vx_ret ?_
          exact nk_retz C0 (by decide) hw hW hS dX9_bind_486
  · refine lv_iload hx hb dX9_bind_133 (lv_at hl 6 rfl) ?_
    refine lv_icmp_ne (tgt := 147) hx hb dX9_bind_135 (by decide) (fun c135 => ?_) (fun c135 => ?_)
    · have hw := hw.1 c135
      refine lv_iconst (v := 0) hx hb dX9_bind_147 (by decide) ?_
      refine W.widen (k := 3) (n := 18) (Nat.le_of_ble_eq_true rfl) (Nat.le_of_ble_eq_true rfl) ?_
      refine vx_ret ?_
      exact nk_retz C0 (by decide) hw hW hS dX9_bind_148
    · have hw := hw.2 c135
      refine lv_iload hx hb dX9_bind_138 (lv_at hl 5 rfl) ?_
      refine lv_if_ne (tgt := 147) hx hb dX9_bind_140 (by decide) (fun c140 => ?_) (fun c140 => ?_)
      · have hw := hw.1 c140
        refine lv_iconst (v := 0) hx hb dX9_bind_147 (by decide) ?_
        refine W.widen (k := 3) (n := 18) (Nat.le_of_ble_eq_true rfl) (Nat.le_of_ble_eq_true rfl) ?_
        refine vx_ret ?_
        exact nk_retz C0 (by decide) hw hW hS dX9_bind_148
      · have hw := hw.2 c140
        refine lv_iconst (v := 1) hx hb dX9_bind_143 (by decide) ?_
        refine lv_goto (tgt := 148) hx hb dX9_bind_144 (by decide) ?_
        refine W.widen (k := 3) (n := 18) (Nat.le_of_ble_eq_true rfl) (Nat.le_of_ble_eq_true rfl) ?_
        refine vx_ret ?_
        exact nk_retz C0 (by decide) hw hW hS dX9_bind_148
set_option maxHeartbeats 4000000 in
set_option maxRecDepth 100000 in
theorem tJ_X9_bind_105 {p : Program} {l : Launch} {e : Env} {s : State} {m : MethodId} {args : Array Value} {below : List Frame} {meth : Method} {c : Code} {D : va_G} {cI cZ cG cL : ClassId} {ad am : Nat → Nat} {q1 q2 q3 b0 L : Nat} {xs : Nat → Int32} (C0 : gk_F p s m args meth c cX9_bind 11 (some .boolean) RX9) (hK : gk_K D cI cZ cG cL s) (hZ : nk_Z q1 q2 q3 b0 L xs (nk_A ad am s.heap.size) s s.heap) (htab : c.exceptionTable.toList = tableOf [(56, 148, 464, 138), (149, 278, 464, 138), (279, 463, 464, 138), (56, 148, 469, 140), (149, 278, 469, 140), (279, 463, 469, 140)]) (hfl : l.stackTraces = false) {Q : Int32 → nk_C → Prop} : ∀ (σ : nk_C) (x1 : Int32) (x2 : Int32) (x4 : Int32) (x6 : Int32) (x8 : Int32) (t0 : Int32), wJ_X9_bind_105 Q σ x1 x2 x4 x6 x8 t0 → ∀ (H : Heap) (locs : List Loc), nk_W D cI cZ cL ad am b0 σ H → va_S (nk_A ad am s.heap.size) s.heap H locs → ∀ (ls : Array Slot), lv_has ls 11 [(0, .ref (am 0)), (1, .int x1), (2, .int x2), (4, .int x4), (6, .int x6), (8, .int x8)] → W p l e rmX9_bind s m args below meth c H locs 0 0 (vx_MQ below (va_Qi (fun r u => Q r u) (nk_B D cI cZ cL ad am b0) (nk_A ad am s.heap.size)) nk_XF args s 3 18 (nk_A ad am s.heap.size)) (F0 m 105 ls [.int t0]) := by
  obtain ⟨hx, hb, hml, hown, hts, hr, hlocks⟩ := id C0
  intro σ x1 x2 x4 x6 x8 t0 hw H locs hW hS  ls hl
  refine lv_istore (lv' := [(7, .int t0), (0, .ref (am 0)), (1, .int x1), (2, .int x2), (4, .int x4), (6, .int x6), (8, .int x8)]) hx hb dX9_bind_105 hl (by decide) rfl (fun ls hl => ?_)
  refine lv_iload hx hb dX9_bind_107 (lv_at hl 0 rfl) ?_
  refine lv_if_eq (tgt := 122) hx hb dX9_bind_109 (by decide) (fun c109 => ?_) (fun c109 => ?_)
  · have hw := hw.1 c109
    refine tJ_X9_bind_122 C0 hK hZ htab hfl  σ x1 x2 x4 x6 t0 x8 hw _ _ hW hS  _ (lv_sub hl [1, 2, 3, 4, 5, 0, 6] rfl)
  · have hw := hw.2 c109
    refine lv_aload_n hx hb dX9_bind_112 rfl (lv_at hl 1 rfl) ?_
    refine gk_get hx hb hts iwX9 hown hK.1 (nk_obj hW) rfl 6 (by decide) (hts _ fl_X9_18) (fun _ h9 => h9) rfl dX9_bind_113 ?_
    refine lv_iload_n hx hb dX9_bind_116 rfl (lv_at hl 2 rfl) ?_
    obtain ⟨hin, hw⟩ := hw
    refine nk_aalz hx hb hK (nk_o6 hW) hin (by decide) dX9_bind_117 (fun hz117 => ?_)
    refine lv_iload_n hx hb dX9_bind_118 rfl (lv_at hl 3 rfl) ?_
    refine lv_iload hx hb dX9_bind_119 (lv_at hl 6 rfl) ?_
    obtain ⟨hin, hw⟩ := hw
    refine gk_zast hx hb hK.1 hS (nk_A.in (tk_z_in hz117.1 hz117.2)) 1 (nk_zr hW hz117) rfl hin dX9_bind_121 (fun H locs h1 _ oq hS => ?_)
    have hW := hW.setZ (k := (22 + x1.toNatClampNeg)) hz117 h1 oq
    obtain ⟨σ121, eσ121⟩ : ∃ z, z = nk_st σ (22 + x1.toNatClampNeg) x2 (vp_nar .boolean x8) := ⟨_, rfl⟩
    have hW := nk_stW eσ121 hW
    have hw := hw σ121 eσ121
    refine tJ_X9_bind_122 C0 hK hZ htab hfl  σ121 x1 x2 x4 x6 t0 x8 hw _ _ hW hS  _ (lv_sub hl [1, 2, 3, 4, 5, 0, 6] rfl)
set_option maxHeartbeats 4000000 in
set_option maxRecDepth 100000 in
theorem tJ_X9_bind_40 {p : Program} {l : Launch} {e : Env} {s : State} {m : MethodId} {args : Array Value} {below : List Frame} {meth : Method} {c : Code} {D : va_G} {cI cZ cG cL : ClassId} {ad am : Nat → Nat} {q1 q2 q3 b0 L : Nat} {xs : Nat → Int32} (C0 : gk_F p s m args meth c cX9_bind 11 (some .boolean) RX9) (hK : gk_K D cI cZ cG cL s) (hZ : nk_Z q1 q2 q3 b0 L xs (nk_A ad am s.heap.size) s s.heap) (htab : c.exceptionTable.toList = tableOf [(56, 148, 464, 138), (149, 278, 464, 138), (279, 463, 464, 138), (56, 148, 469, 140), (149, 278, 469, 140), (279, 463, 469, 140)]) (hfl : l.stackTraces = false) {Q : Int32 → nk_C → Prop} : ∀ (σ : nk_C) (x1 : Int32) (x2 : Int32) (x3 : Int32) (t0 : Int32), wJ_X9_bind_40 Q σ x1 x2 x3 t0 → ∀ (H : Heap) (locs : List Loc), nk_W D cI cZ cL ad am b0 σ H → va_S (nk_A ad am s.heap.size) s.heap H locs → ∀ (ls : Array Slot), lv_has ls 11 [(0, .ref (am 0)), (1, .int x1), (2, .int x2), (3, .int x3)] → W p l e rmX9_bind s m args below meth c H locs 0 0 (vx_MQ below (va_Qi (fun r u => Q r u) (nk_B D cI cZ cL ad am b0) (nk_A ad am s.heap.size)) nk_XF args s 3 18 (nk_A ad am s.heap.size)) (F0 m 40 ls [.int t0]) := by
  obtain ⟨hx, hb, hml, hown, hts, hr, hlocks⟩ := id C0
  intro σ x1 x2 x3 t0 hw H locs hW hS  ls hl
  refine lv_istore (lv' := [(4, .int t0), (0, .ref (am 0)), (1, .int x1), (2, .int x2), (3, .int x3)]) hx hb dX9_bind_40 hl (by decide) rfl (fun ls hl => ?_)
  refine lv_aload_n hx hb dX9_bind_42 rfl (lv_at hl 1 rfl) ?_
  refine lv_bipush (v := 6) hx hb dX9_bind_43 (by decide) ?_
  refine nk_callVi ⟨hx, hb, hml, hown, hts⟩ (c_X9_draw l D cI cZ cG cL ad am q1 q2 q3 b0 L xs hw) (cwV 1 hts (gk_gV ml_X9_78 im_X9_draw se_X9_draw in_X9 co_X9_draw) rfl rfl rfl (by decide +kernel) ⟨Nat.le_of_ble_eq_true rfl, Nat.le_of_ble_eq_true rfl⟩) (gk_recv hK.1 (nk_obj hW) rfl) hW hK hZ trivial hS (nk_A.up hS.1) rfl hl.1 (rest := []) rfl (lv_room (Nat.le_of_ble_eq_true rfl)) dX9_bind_45 ⟨Nat.le_of_ble_eq_true rfl, Nat.le_of_ble_eq_true rfl⟩ (fun r45 σ45 H locs hw hW _ hk hS => ?_)
  refine lv_istore (lv' := [(5, .int r45), (4, .int t0), (0, .ref (am 0)), (1, .int x1), (2, .int x2), (3, .int x3)]) hx hb dX9_bind_48 hl (by decide) rfl (fun ls hl => ?_)
  refine lv_iconst (v := 0) hx hb dX9_bind_50 (by decide) ?_
  refine lv_istore (lv' := [(6, .int 0), (5, .int r45), (4, .int t0), (0, .ref (am 0)), (1, .int x1), (2, .int x2), (3, .int x3)]) hx hb dX9_bind_51 hl (by decide) rfl (fun ls hl => ?_)
  refine lv_iconst (v := 0) hx hb dX9_bind_53 (by decide) ?_
  refine lv_istore (lv' := [(7, .int 0), (6, .int 0), (5, .int r45), (4, .int t0), (0, .ref (am 0)), (1, .int x1), (2, .int x2), (3, .int x3)]) hx hb dX9_bind_54 hl (by decide) rfl (fun ls hl => ?_)
  refine lv_iload hx hb dX9_bind_56 (lv_at hl 2 rfl) ?_
  refine lv_iconst (v := 3) hx hb dX9_bind_58 (by decide) ?_
  refine lv_icmp_ge (tgt := 149) hx hb dX9_bind_59 (by decide) (fun c59 => ?_) (fun c59 => ?_)
  · have hw := hw.1 c59
    refine lv_iload hx hb dX9_bind_149 (lv_at hl 2 rfl) ?_
    refine lv_iconst (v := 5) hx hb dX9_bind_151 (by decide) ?_
    refine lv_icmp_ge (tgt := 279) hx hb dX9_bind_152 (by decide) (fun c152 => ?_) (fun c152 => ?_)
    · have hw := hw.1 c152
      refine lv_iload_n hx hb dX9_bind_279 rfl (lv_at hl 6 rfl) ?_
      refine lv_iload_n hx hb dX9_bind_280 rfl (lv_at hl 7 rfl) ?_
      refine lv_icmp_ne (tgt := 288) hx hb dX9_bind_281 (by decide) (fun c281 => ?_) (fun c281 => ?_)
      · have hw := hw.1 c281
        refine lv_iconst (v := 0) hx hb dX9_bind_288 (by decide) ?_
        refine tJ_X9_bind_289 C0 hK hZ htab hfl  σ45 x2 x3 0 0 hw _ _ hW hS  _ (lv_sub hl [4, 6, 7, 0] rfl)
      · have hw := hw.2 c281
        refine lv_iconst (v := 1) hx hb dX9_bind_284 (by decide) ?_
        refine lv_goto (tgt := 289) hx hb dX9_bind_285 (by decide) ?_
        refine tJ_X9_bind_289 C0 hK hZ htab hfl  σ45 x2 x3 0 1 hw _ _ hW hS  _ (lv_sub hl [4, 6, 7, 0] rfl)
    · have hw := hw.2 c152
      refine lv_iload_n hx hb dX9_bind_155 rfl (lv_at hl 6 rfl) ?_
      refine lv_iload_n hx hb dX9_bind_156 rfl (lv_at hl 7 rfl) ?_
      refine lv_icmp_eq (tgt := 176) hx hb dX9_bind_157 (by decide) (fun c157 => ?_) (fun c157 => ?_)
      · have hw := hw.1 c157
        refine tJ_X9_bind_176 C0 hK hZ htab hfl (hk181 := ?_) σ45 x2 x3 t0 0 0 hw _ _ hW hS  _ (lv_sub hl [4, 6, 7, 3, 1, 0] rfl)
        · intro σ x2 x3 x4 x7 t0 hw H locs hW hS  ls hl
          refine tJ_X9_bind_181 C0 hK hZ htab hfl  σ x2 x3 x4 x7 t0 hw _ _ hW hS  _ hl
      · have hw := hw.2 c157
        refine lv_iload hx hb dX9_bind_160 (lv_at hl 3 rfl) ?_
        refine lv_if_eq (tgt := 180) hx hb dX9_bind_162 (by decide) (fun c162 => ?_) (fun c162 => ?_)
        · have hw := hw.1 c162
          refine tJ_X9_bind_180 C0 hK hZ htab hfl (hk181 := ?_) σ45 x2 x3 t0 0 0 hw _ _ hW hS  _ (lv_sub hl [4, 6, 7, 3, 1, 0] rfl)
          · intro σ x2 x3 x4 x7 t0 hw H locs hW hS  ls hl
            refine tJ_X9_bind_181 C0 hK hZ htab hfl  σ x2 x3 x4 x7 t0 hw _ _ hW hS  _ hl
        · have hw := hw.2 c162
          refine lv_aload_n hx hb dX9_bind_165 rfl (lv_at hl 4 rfl) ?_
          refine lv_iload_n hx hb dX9_bind_166 rfl (lv_at hl 7 rfl) ?_
          refine lv_iload_n hx hb dX9_bind_167 rfl (lv_at hl 6 rfl) ?_
          refine lv_bipush (v := 6) hx hb dX9_bind_168 (by decide) ?_
          refine nk_callRi ⟨hx, hb, hml, hown, hts⟩ (c_X9_isHeld l D cI cZ cG cL ad am q1 q2 q3 b0 L xs 7 hw) (cwV 3 hts (gk_gV ml_X9_116 im_X9_isHeld se_X9_isHeld in_X9 co_X9_isHeld) rfl rfl rfl (by decide +kernel) ⟨Nat.le_of_ble_eq_true rfl, Nat.le_of_ble_eq_true rfl⟩) (gk_recv hK.1 (nk_obj hW) rfl) hW hK hZ trivial hS (nk_A.up hS.1) rfl hl.1 (rest := []) rfl (lv_room (Nat.le_of_ble_eq_true rfl)) dX9_bind_170 ⟨Nat.le_of_ble_eq_true rfl, Nat.le_of_ble_eq_true rfl⟩ (fun r170 H locs hw hW _ hk hS => ?_)
          refine lv_if_eq (tgt := 180) hx hb dX9_bind_173 (by decide) (fun c173 => ?_) (fun c173 => ?_)
          · have hw := hw.1 c173
            refine tJ_X9_bind_180 C0 hK hZ htab hfl (hk181 := ?_) σ45 x2 x3 t0 0 0 hw _ _ hW hS  _ (lv_sub hl [4, 6, 7, 3, 1, 0] rfl)
            · intro σ x2 x3 x4 x7 t0 hw H locs hW hS  ls hl
              refine tJ_X9_bind_181 C0 hK hZ htab hfl  σ x2 x3 x4 x7 t0 hw _ _ hW hS  _ hl
          · have hw := hw.2 c173
            refine tJ_X9_bind_176 C0 hK hZ htab hfl (hk181 := ?_) σ45 x2 x3 t0 0 0 hw _ _ hW hS  _ (lv_sub hl [4, 6, 7, 3, 1, 0] rfl)
            · intro σ x2 x3 x4 x7 t0 hw H locs hW hS  ls hl
              refine tJ_X9_bind_181 C0 hK hZ htab hfl  σ x2 x3 x4 x7 t0 hw _ _ hW hS  _ hl
  · have hw := hw.2 c59
    refine lv_aload_n hx hb dX9_bind_62 rfl (lv_at hl 4 rfl) ?_
    refine gk_get hx hb hts iwX9 hown hK.1 (nk_obj hW) rfl 6 (by decide) (hts _ fl_X9_18) (fun _ h9 => h9) rfl dX9_bind_63 ?_
    refine lv_iload_n hx hb dX9_bind_66 rfl (lv_at hl 5 rfl) ?_
    obtain ⟨hin, hw⟩ := hw
    refine nk_aalz hx hb hK (nk_o6 hW) hin (by decide) dX9_bind_67 (fun hz67 => ?_)
    refine lv_iload_n hx hb dX9_bind_68 rfl (lv_at hl 6 rfl) ?_
    obtain ⟨hin, hw⟩ := hw
    refine gk_zald hx hb hK.1 1 (nk_zr hW hz67) rfl hin dX9_bind_69 ?_
    refine lv_istore (lv' := [(8, .int (σ45.2.1 (22 + x1.toNatClampNeg) x2.toNatClampNeg)), (7, .int 0), (6, .int 0), (5, .int r45), (4, .int t0), (0, .ref (am 0)), (1, .int x1), (2, .int x2), (3, .int x3)]) hx hb dX9_bind_70 hl (by decide) rfl (fun ls hl => ?_)
    refine lv_aload_n hx hb dX9_bind_72 rfl (lv_at hl 5 rfl) ?_
    refine gk_get hx hb hts iwX9 hown hK.1 (nk_obj hW) rfl 6 (by decide) (hts _ fl_X9_18) (fun _ h9 => h9) rfl dX9_bind_73 ?_
    refine lv_iload_n hx hb dX9_bind_76 rfl (lv_at hl 6 rfl) ?_
    obtain ⟨hin, hw⟩ := hw
    refine nk_aalz hx hb hK (nk_o6 hW) hin (by decide) dX9_bind_77 (fun hz77 => ?_)
    refine lv_iload_n hx hb dX9_bind_78 rfl (lv_at hl 7 rfl) ?_
    refine lv_iload hx hb dX9_bind_79 (lv_at hl 4 rfl) ?_
    obtain ⟨hin, hw⟩ := hw
    refine gk_zast hx hb hK.1 hS (nk_A.in (tk_z_in hz77.1 hz77.2)) 1 (nk_zr hW hz77) rfl hin dX9_bind_81 (fun H locs h1 _ oq hS => ?_)
    have hW := hW.setZ (k := (22 + x1.toNatClampNeg)) hz77 h1 oq
    obtain ⟨σ81, eσ81⟩ : ∃ z, z = nk_st σ45 (22 + x1.toNatClampNeg) x2 (vp_nar .boolean t0) := ⟨_, rfl⟩
    have hW := nk_stW eσ81 hW
    have hw := hw σ81 eσ81
    refine lv_iload hx hb dX9_bind_82 (lv_at hl 4 rfl) ?_
    refine lv_if_eq (tgt := 104) hx hb dX9_bind_84 (by decide) (fun c84 => ?_) (fun c84 => ?_)
    · have hw := hw.1 c84
      refine tJ_X9_bind_104 C0 hK hZ htab hfl (hk105 := ?_) σ81 x1 x2 t0 0 0 (σ45.2.1 (22 + x1.toNatClampNeg) x2.toNatClampNeg) hw _ _ hW hS  _ (lv_sub hl [5, 6, 7, 4, 2, 1, 0] rfl)
      · intro σ x1 x2 x4 x6 x8 t0 hw H locs hW hS  ls hl
        refine tJ_X9_bind_105 C0 hK hZ htab hfl  σ x1 x2 x4 x6 x8 t0 hw _ _ hW hS  _ hl
    · have hw := hw.2 c84
      refine lv_aload_n hx hb dX9_bind_87 rfl (lv_at hl 5 rfl) ?_
      refine lv_aload_n hx hb dX9_bind_88 rfl (lv_at hl 5 rfl) ?_
      refine gk_get hx hb hts iwX9 hown hK.1 (nk_obj hW) rfl 6 (by decide) (hts _ fl_X9_18) (fun _ h9 => h9) rfl dX9_bind_89 ?_
      refine lv_iload_n hx hb dX9_bind_92 rfl (lv_at hl 6 rfl) ?_
      obtain ⟨hin, hw⟩ := hw
      refine nk_aalz hx hb hK (nk_o6 hW) hin (by decide) dX9_bind_93 (fun hz93 => ?_)
      refine nk_callRi ⟨hx, hb, hml, hown, hts⟩ (c_X9_hasApart l D cI cZ cG cL ad am q1 q2 q3 b0 L xs hz93 hw) (cwV 1 hts (gk_gV ml_X9_120 im_X9_hasApart se_X9_hasApart in_X9 co_X9_hasApart) rfl rfl rfl (by decide +kernel) ⟨Nat.le_of_ble_eq_true rfl, Nat.le_of_ble_eq_true rfl⟩) (gk_recv hK.1 (nk_obj hW) rfl) hW hK hZ trivial hS (nk_A.up hS.1) rfl hl.1 (rest := []) rfl (lv_room (Nat.le_of_ble_eq_true rfl)) dX9_bind_94 ⟨Nat.le_of_ble_eq_true rfl, Nat.le_of_ble_eq_true rfl⟩ (fun r94 H locs hw hW _ hk hS => ?_)
      refine lv_if_eq (tgt := 104) hx hb dX9_bind_97 (by decide) (fun c97 => ?_) (fun c97 => ?_)
      · have hw := hw.1 c97
        refine tJ_X9_bind_104 C0 hK hZ htab hfl (hk105 := ?_) σ81 x1 x2 t0 0 0 (σ45.2.1 (22 + x1.toNatClampNeg) x2.toNatClampNeg) hw _ _ hW hS  _ (lv_sub hl [5, 6, 7, 4, 2, 1, 0] rfl)
        · intro σ x1 x2 x4 x6 x8 t0 hw H locs hW hS  ls hl
          refine tJ_X9_bind_105 C0 hK hZ htab hfl  σ x1 x2 x4 x6 x8 t0 hw _ _ hW hS  _ hl
      · have hw := hw.2 c97
        refine lv_iconst (v := 1) hx hb dX9_bind_100 (by decide) ?_
        refine lv_goto (tgt := 105) hx hb dX9_bind_101 (by decide) ?_
        refine tJ_X9_bind_105 C0 hK hZ htab hfl  σ81 x1 x2 t0 0 (σ45.2.1 (22 + x1.toNatClampNeg) x2.toNatClampNeg) 1 hw _ _ hW hS  _ (lv_sub hl [5, 6, 7, 4, 2, 0] rfl)
set_option maxHeartbeats 4000000 in
set_option maxRecDepth 100000 in
theorem c_X9_bind (l : Launch) (hfl : l.stackTraces = false) (D : va_G) (cI cZ cG cL : ClassId) (ad am : Nat → Nat) (q1 q2 q3 b0 L : Nat) (xs : Nat → Int32) {σ : nk_C} {Q : Int32 → nk_C → Prop} {sz : Nat} (hw : w_X9_bind σ  Q) : vx_Met l yX9_bind wsX9_bind rmX9_bind (nk_Pc D cI cZ cG cL ad am q1 q2 q3 b0 L xs [.ref (am 0)] sz σ (fun _ => True)) (va_Qi (fun r u => Q r u) (nk_B D cI cZ cL ad am b0) (nk_A ad am sz)) nk_XF 3 18 (nk_A ad am sz) := by
  refine vx_ofWH (cc := cX9_bind) (maxL := 11) (ret := (some .boolean)) (by decide) rfl ?_
  intro p e s m args below meth c s₁ B hml0 hv0
  obtain ⟨rfl, hsz, hW, hK, hZ, hX⟩ := hv0
  subst hsz
  have C0 : gk_F p s m ([.ref (am 0)] : List Value).toArray meth c cX9_bind 11 (some .boolean) RX9 := ⟨B.exec, B.bytes, hml0, findClass_of_methodNamed B.named, fun w hw => atoms_spec (ws := wsX9_bind) B.pre w (List.mem_cons_of_mem _ hw), B.returns, B.notSynchronized⟩
  obtain ⟨hx, hb, hml, hown, hts, hr, hlocks⟩ := id C0
  have htab := vx_table (x := yX9_bind) B (atoms_spec (ws := wsX9_bind) B.pre _ List.mem_cons_self)
  have hS : va_S (nk_A ad am s.heap.size) s.heap s.heap [] := va_S.rf
  have hl := lv_entry ([.ref (am 0)]) (n := 11) (Nat.le_of_ble_eq_true rfl)
  rw [lg_entry_eq]
  generalize (lg_sl ([.ref (am 0)]) ++ List.replicate (11 - (lg_sl ([.ref (am 0)])).length) Slot.unset).toArray = ls at hl ⊢
  have hl : lv_has ls 11 [(0, .ref (am 0))] := hl
  show W p l e rmX9_bind s m _ below meth c s.heap [] 0 0 _ _
  refine lv_aload_n hx hb dX9_bind_0 rfl (lv_at hl 0 rfl) ?_
  refine lv_aload_n hx hb dX9_bind_1 rfl (lv_at hl 0 rfl) ?_
  refine gk_get hx hb hts iwX9 hown hK.1 (nk_obj hW) rfl 5 (by decide) (hts _ fl_X9_82) (fun _ h9 => h9) rfl dX9_bind_2 ?_
  refine nk_callVi ⟨hx, hb, hml, hown, hts⟩ (c_X9_draw l D cI cZ cG cL ad am q1 q2 q3 b0 L xs hw) (cwV 1 hts (gk_gV ml_X9_78 im_X9_draw se_X9_draw in_X9 co_X9_draw) rfl rfl rfl (by decide +kernel) ⟨Nat.le_of_ble_eq_true rfl, Nat.le_of_ble_eq_true rfl⟩) (gk_recv hK.1 (nk_obj hW) rfl) hW hK hZ trivial hS (nk_A.up hS.1) rfl hl.1 (rest := []) rfl (lv_room (Nat.le_of_ble_eq_true rfl)) dX9_bind_5 ⟨Nat.le_of_ble_eq_true rfl, Nat.le_of_ble_eq_true rfl⟩ (fun r5 σ5 H locs hw hW _ hk hS => ?_)
  refine lv_istore_n (lv' := [(1, .int r5), (0, .ref (am 0))]) hx hb dX9_bind_8 rfl hl (by decide) rfl (fun ls hl => ?_)
  refine lv_aload_n hx hb dX9_bind_9 rfl (lv_at hl 1 rfl) ?_
  refine lv_aload_n hx hb dX9_bind_10 rfl (lv_at hl 1 rfl) ?_
  refine gk_get hx hb hts iwX9 hown hK.1 (nk_obj hW) rfl 9 (by decide) (hts _ fl_X9_92) (fun _ h9 => h9) rfl dX9_bind_11 ?_
  refine nk_callVi ⟨hx, hb, hml, hown, hts⟩ (c_X9_draw l D cI cZ cG cL ad am q1 q2 q3 b0 L xs hw) (cwV 1 hts (gk_gV ml_X9_78 im_X9_draw se_X9_draw in_X9 co_X9_draw) rfl rfl rfl (by decide +kernel) ⟨Nat.le_of_ble_eq_true rfl, Nat.le_of_ble_eq_true rfl⟩) (gk_recv hK.1 (nk_obj hW) rfl) hW hK hZ trivial hS (nk_A.up hS.1) rfl hl.1 (rest := []) rfl (lv_room (Nat.le_of_ble_eq_true rfl)) dX9_bind_14 ⟨Nat.le_of_ble_eq_true rfl, Nat.le_of_ble_eq_true rfl⟩ (fun r14 σ14 H locs hw hW _ hk hS => ?_)
  refine lv_istore_n (lv' := [(2, .int r14), (1, .int r5), (0, .ref (am 0))]) hx hb dX9_bind_17 rfl hl (by decide) rfl (fun ls hl => ?_)
  refine lv_aload_n hx hb dX9_bind_18 rfl (lv_at hl 2 rfl) ?_
  refine lv_aload_n hx hb dX9_bind_19 rfl (lv_at hl 2 rfl) ?_
  refine gk_get hx hb hts iwX9 hown hK.1 (nk_obj hW) rfl 9 (by decide) (hts _ fl_X9_92) (fun _ h9 => h9) rfl dX9_bind_20 ?_
  refine nk_callVi ⟨hx, hb, hml, hown, hts⟩ (c_X9_draw l D cI cZ cG cL ad am q1 q2 q3 b0 L xs hw) (cwV 1 hts (gk_gV ml_X9_78 im_X9_draw se_X9_draw in_X9 co_X9_draw) rfl rfl rfl (by decide +kernel) ⟨Nat.le_of_ble_eq_true rfl, Nat.le_of_ble_eq_true rfl⟩) (gk_recv hK.1 (nk_obj hW) rfl) hW hK hZ trivial hS (nk_A.up hS.1) rfl hl.1 (rest := []) rfl (lv_room (Nat.le_of_ble_eq_true rfl)) dX9_bind_23 ⟨Nat.le_of_ble_eq_true rfl, Nat.le_of_ble_eq_true rfl⟩ (fun r23 σ23 H locs hw hW _ hk hS => ?_)
  refine lv_istore_n (lv' := [(3, .int r23), (2, .int r14), (1, .int r5), (0, .ref (am 0))]) hx hb dX9_bind_26 rfl hl (by decide) rfl (fun ls hl => ?_)
  refine lv_aload_n hx hb dX9_bind_27 rfl (lv_at hl 3 rfl) ?_
  refine lv_iconst (v := 4) hx hb dX9_bind_28 (by decide) ?_
  refine nk_callVi ⟨hx, hb, hml, hown, hts⟩ (c_X9_draw l D cI cZ cG cL ad am q1 q2 q3 b0 L xs hw) (cwV 1 hts (gk_gV ml_X9_78 im_X9_draw se_X9_draw in_X9 co_X9_draw) rfl rfl rfl (by decide +kernel) ⟨Nat.le_of_ble_eq_true rfl, Nat.le_of_ble_eq_true rfl⟩) (gk_recv hK.1 (nk_obj hW) rfl) hW hK hZ trivial hS (nk_A.up hS.1) rfl hl.1 (rest := []) rfl (lv_room (Nat.le_of_ble_eq_true rfl)) dX9_bind_29 ⟨Nat.le_of_ble_eq_true rfl, Nat.le_of_ble_eq_true rfl⟩ (fun r29 σ29 H locs hw hW _ hk hS => ?_)
  refine lv_if_le (tgt := 39) hx hb dX9_bind_32 (by decide) (fun c32 => ?_) (fun c32 => ?_)
  · have hw := hw.1 c32
    refine lv_iconst (v := 0) hx hb dX9_bind_39 (by decide) ?_
    refine tJ_X9_bind_40 C0 hK hZ htab hfl  σ29 r5 r14 r23 0 hw _ _ hW hS  _ (lv_sub hl [3, 2, 1, 0] rfl)
  · have hw := hw.2 c32
    refine lv_iconst (v := 1) hx hb dX9_bind_35 (by decide) ?_
    refine lv_goto (tgt := 40) hx hb dX9_bind_36 (by decide) ?_
    refine tJ_X9_bind_40 C0 hK hZ htab hfl  σ29 r5 r14 r23 1 hw _ _ hW hS  _ (lv_sub hl [3, 2, 1, 0] rfl)
