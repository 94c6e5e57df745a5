/-! ===== the gate's own refusals: three checks that throw, and methods that pass them on ===== -/
abbrev gk_E1 : String := "java/lang/IndexOutOfBoundsException"
abbrev gk_E2 : String := "java/lang/IllegalArgumentException"
abbrev gk_E3 : String := "java/lang/IllegalStateException"
abbrev gk_En : List String := ["java/lang/RuntimeException", "java/lang/Exception"]
def gk_NO : List Cond := [.declares (Bundle.initS "java/lang/RuntimeException"), .declares (Bundle.initS "java/lang/Exception"), .declares (Bundle.initS Bundle.tN), .castable gk_E1 gk_E1, .castable gk_E2 gk_E2, .castable gk_E3 gk_E3]
theorem gk_NO.warm {s U : State} (hW : s.WarmedH U.vm) (h : ∀ w ∈ gk_NO, va_Nw w s) : ∀ w ∈ gk_NO, va_Nw w U := by
  intro w hw
  have h0 := h w hw
  simp only [gk_NO, List.mem_cons, List.not_mem_nil, or_false] at hw
  rcases hw with rfl | rfl | rfl | rfl | rfl | rfl
  · exact va_Nw.warmD hW h0
  · exact va_Nw.warmD hW h0
  · exact va_Nw.warmD hW h0
  · exact va_Nw.warmC hW h0
  · exact va_Nw.warmC hW h0
  · exact va_Nw.warmC hW h0
/-- what a refusal needs: its texts, the words of the classes above, two statics of Throwable -/
def gk_Y (q1 q2 q3 : Nat) (A : Nat → Prop) (U : State) (H : Heap) : Prop :=
  (vk_R RX8 295 "there is no such one" q1 U ∧ vk_R RX8 302 "this can not be asked for" q2 U ∧ vk_R RX8 307 "this can not be as things stand" q3 U) ∧ (∀ w ∈ gk_NO, va_Nw w U) ∧
  vx_Zq Bundle.tN "UNASSIGNED_STACK" Bundle.steD A U H ∧ vx_Zq Bundle.tN "SUPPRESSED_SENTINEL" Bundle.listD A U H
section GKY
variable {q1 q2 q3 : Nat} {A B : Nat → Prop} {s U : State} {H H1 : Heap}
theorem gk_Y.warm (hW : s.WarmedH U.vm) (h : gk_Y q1 q2 q3 A s H) : gk_Y q1 q2 q3 A U H :=
  ⟨⟨h.1.1.warm hW, h.1.2.1.warm hW, h.1.2.2.warm hW⟩, gk_NO.warm hW h.2.1, h.2.2.1.moved hW.alike, h.2.2.2.moved hW.alike⟩
theorem gk_Y.kept (h : gk_Y q1 q2 q3 A U H) (hq : ∀ a : Nat, a < H.size → ¬ A a → H1[a]? = H[a]?) : gk_Y q1 q2 q3 A U H1 := ⟨h.1, h.2.1, h.2.2.1.kept hq, h.2.2.2.kept hq⟩
theorem gk_Y.narrow (h : gk_Y q1 q2 q3 A U H) (hAB : ∀ q, B q → A q) : gk_Y q1 q2 q3 B U H := ⟨h.1, h.2.1, h.2.2.1.narrow hAB, h.2.2.2.narrow hAB⟩
theorem gk_Y.blind {g : JFrame} {mk : MethodId} {a : Array Value} (h : gk_Y q1 q2 q3 A U H) : gk_Y q1 q2 q3 A (U.calling g mk a) H :=
  ⟨⟨h.1.1.same rfl, h.1.2.1.same rfl, h.1.2.2.same rfl⟩, fun w hw => va_tabs (u := U) (by revert w; decide) rfl (h.2.1 w hw), h.2.2.1.moved (Vm.Alike.refl U.vm), h.2.2.2.moved (Vm.Alike.refl U.vm)⟩
end GKY
/-- a check's own premise -/
def gk_Pk (q1 q2 q3 : Nat) (av : List Value) : Array Value → State → Prop := va_Pc av (fun U => gk_Y q1 q2 q3 gk_An U U.heap)
theorem gk_Pk.blind {q1 q2 q3 : Nat} {av : List Value} : FrameBlind (gk_Pk q1 q2 q3 av) := fun _ _ _ _ q => ⟨q.1, gk_Y.blind q.2⟩
/-- .. and a method's -/
def gk_Pt (D : va_G) (cI cZ cG cL : ClassId) (ad : Nat → Nat) (q1 q2 q3 : Nat) (av : List Value) (sz : Nat) (σ : gk_C) : Array Value → State → Prop := va_Pc av (fun U => U.heap.size = sz ∧ gk_W D cI ad σ U.heap ∧ gk_K D cI cZ cG cL U ∧ gk_Y q1 q2 q3 (gk_A ad sz) U U.heap)
theorem gk_Pt.blind {D : va_G} {cI cZ cG cL : ClassId} {ad : Nat → Nat} {q1 q2 q3 : Nat} {av : List Value} {sz : Nat} {σ : gk_C} : FrameBlind (gk_Pt D cI cZ cG cL ad q1 q2 q3 av sz σ) := fun _ _ _ _ q => ⟨q.1, q.2.1, q.2.2.1, gk_K.blind q.2.2.2.1, gk_Y.blind q.2.2.2.2⟩
abbrev gk_XT (D : va_G) (cI : ClassId) (ad : Nat → Nat) (T : String → gk_C → Prop) (sz : Nat) : String → State → State → Prop := vx_X (fun u : String × gk_C => T u.1 u.2) (fun E u t => E = u.1 ∧ gk_W D cI ad u.2 t.heap) (gk_A ad sz)
abbrev gk_Xk (T : String → Prop) : String → State → State → Prop := vx_X T (fun E u _ => E = u) gk_An
section GKT
variable {p : Program} {l : Launch} {e : Env} {R : Room} {s : State} {m : MethodId} {args : Array Value} {below : List Frame} {meth : Method} {c : Code} {H : Heap} {locs : List Loc} {cells slots : Nat} {Q : State → Prop}
variable {D : va_G} {cI cZ cG cL : ClassId} {ad : Nat → Nat} {σ : gk_C} {cc : ByteArray} {pc nL : Nat} {ls : Array Slot} {rest st0 : List Value}
variable {y : MethodName} {ws : List Cond} {rm : Room} {own C : String} {index n maxL : Nat} {bytes : ByteArray} {ret ret' : Option FieldType} {Ts : List Cond} {b : Addr} {As : List Value} {q1 q2 q3 mc ms mc' ms' : Nat}
/-- the throw itself -/
theorem gk_throw {T : String → Prop} {Qc : Array Value → State → Outcome → State → Prop} {cls text : String} {ik is ic sa : Nat} (C0 : gk_F p s m args meth c cc nL ret RX8) (hl : l.stackTraces = false) (ht : ∀ x ∈ c.exceptionTable.toList, False) (hY : gk_Y q1 q2 q3 gk_An s s.heap)
    (hcls : Bundle.fit cls = true) (hk : Cond.classLink RX8 ik cls ∈ gk_BG) (hini : Cond.initialized cls ∈ gk_BG) (hstr : vk_R RX8 is text sa s) (hg : ∀ w ∈ (vx_atS RX8 ic cls gk_En).filter goodWord, w ∈ gk_BG) (hn : ∀ w ∈ (vx_atS RX8 ic cls gk_En).filter (fun w => !goodWord w), w ∈ gk_NO)
    (hot : ∀ w ∈ Cond.classLink RX8 ik cls :: Cond.initialized cls :: vx_atS RX8 ic cls gk_En, vx_ot w = true) (hsize : ls.size = nL)
    (d0 : decode cc pc = .ok (.new ik, 3)) (d3 : decode cc (pc + 3) = .ok (.dup, 1)) (d4 : decode cc (pc + 4) = .ok (.ldc_w is, 3)) (d7 : decode cc (pc + 7) = .ok (.invokespecial ic, 3)) (d10 : decode cc (pc + 10) = .ok (.athrow, 1))
    (hR : 6 ≤ R.frames ∧ 82 ≤ R.locals ∧ 1 ≤ R.cells ∧ 6 ≤ R.slots) (hT : T cls) :
    W p l e R s m args below meth c s.heap [] 0 0 (vx_MQ below Qc (gk_Xk T) args s 1 6 gk_An) (F0 m pc ls []) := by
  obtain ⟨hx, hb, hml, hown, hts, hr, hlocks⟩ := C0
  refine vx_throwSW (A := gk_An) (names := gk_En) hx hb hl hown hcls (by decide) (hts _ hk) (hts _ hini) hstr (vx_hat (fun w hw => hts w (hg w hw)) hn (fun w hw => va_Nw.use (by revert w; decide) (hY.2.1 w hw))) hot hY.2.2.1 hY.2.2.2 va_S.rf (hsize.trans hml.symm) d0 d3 d4 d7 d10 (fun x hx => (ht x hx).elim) (by show 2 + 3 < _; omega) (by show 0 + (13 * (2 + 1) + 43) ≤ _; omega) (by omega) (by omega) hlocks (fun t ha hz hq => ⟨cls, hT, rfl, hz, fun q h1 _ => hq q h1⟩) (fun z hz => nomatch hz) (by omega) (by omega)
/-- a check is called -/
theorem gk_chk {T : String → gk_C → Prop} {Qr : Prop} {Qc : Array Value → State → Outcome → State → Prop} {a0 : Int32} (C0 : gk_F p s m args meth c cc nL ret own) (ht : ∀ x ∈ c.exceptionTable.toList, False) (hM : vx_Met l y ws rm (gk_Pk q1 q2 q3 [.int a0]) (va_Qv (fun _ : Unit => Qr) gk_Bn gk_An) (gk_Xk (fun E => T E σ)) 1 6 gk_An)
    (cw : CallB R s args own index y bytes maxL ret' ws rm 1 6 1 ∧ (Cond.static y).before args s = true) (hW : gk_W D cI ad σ H) (hY : gk_Y q1 q2 q3 (gk_A ad s.heap.size) s s.heap) (hS : va_S (gk_A ad s.heap.size) s.heap H locs) (hsz : ls.size = nL)
    (hrm : 2 * (F0 m pc ls (.int a0 :: rest)).monitorRoom + (rest.map fun v => v.category).sum ≤ 8) (hdg : decode cc pc = .ok (.invokestatic index, 3)) (hf : cells + 1 ≤ R.cells ∧ slots + 6 ≤ R.slots) (hm : cells + 1 ≤ mc ∧ slots + 6 ≤ ms)
    (kk : ∀ (H1 : Heap) (locs1 : List Loc), Qr → gk_W D cI ad σ H1 → va_S (gk_A ad s.heap.size) s.heap H1 locs1 → W p l e R s m args below meth c H1 locs1 (cells + 1) (slots + 6) (vx_MQ below Qc (gk_XT D cI ad T s.heap.size) args s mc ms (gk_A ad s.heap.size)) (F0 m (pc + 3) ls rest)) :
    W p l e R s m args below meth c H locs cells slots (vx_MQ below Qc (gk_XT D cI ad T s.heap.size) args s mc ms (gk_A ad s.heap.size)) (F0 m pc ls (.int a0 :: rest)) := by
  obtain ⟨hx, hb, hml, hown, hts, hr, hlocks⟩ := C0
  refine vx_callv (A0 := gk_A ad s.heap.size) (H0 := s.heap) (vx_runS (As := [.int a0]) (rest := rest) ⟨hx, hb, hml, hown, hts⟩ hM cw ⟨gk_Pk.blind, fun U hU hW' => ⟨rfl, ?_⟩⟩ rfl rfl hsz rfl hrm hdg hf) hS (fun q _ h => False.elim h) (fun q h => False.elim h) (fun q _ h => False.elim h) ?_ ?_
  · show gk_Y q1 q2 q3 gk_An U U.heap
    rw [hU]
    exact ((hY.kept (fun a h1 h2 => hS.2.1 a h1 h2)).warm hW').narrow (fun q h => False.elim h)
  · intro E ce q9 u t H1 locs1 hH ha hu hE hz hq hS1 hc1 hc2 hc3
    have hW1 : gk_W D cI ad σ H1 := hW.kept (fun k hk9 => hq _ (hW.lt hk9) id)
    exact vx_out (fun x hx => (ht x hx).elim) hlocks hc1 hc2 hc3 (fun t2 h2 _ => ⟨(u, σ), hu, ⟨hE, by rw [h2]; exact hW1⟩, hS1.F h2⟩) hS1.2.2 hm.1 hm.2
  · intro u t H1 locs1 hH ha hu hB hz hq hS1
    exact kk H1 locs1 hu (hW.kept (fun k hk9 => hq _ (hW.lt hk9) id)) hS1
/-- a method that may throw is called by its receiver -/
theorem gk_chkV {T : String → gk_C → Prop} {Qr : gk_C → Prop} {Qc : Array Value → State → Outcome → State → Prop} (C0 : gk_F p s m args meth c cc nL ret own) (ht : ∀ x ∈ c.exceptionTable.toList, False) (hM : vx_Met l y ws rm (gk_Pt D cI cZ cG cL ad q1 q2 q3 (.ref b :: As) H.size σ) (va_Qv Qr (gk_B D cI ad) (gk_A ad H.size)) (gk_XT D cI ad T H.size) mc' ms' (gk_A ad H.size))
    (cw : CallW R s args own C index y bytes maxL ret' ws rm mc' ms' n) (hrecv : ∃ cell : Cell, H[b]? = some cell ∧ cell.vm.isStatics = false ∧ s.vm.findClass C = some cell.cls) (hW : gk_W D cI ad σ H) (hK : gk_K D cI cZ cG cL s) (hY : gk_Y q1 q2 q3 (gk_A ad s.heap.size) s s.heap) (hS : va_S (gk_A ad s.heap.size) s.heap H locs) (hn : As.length = n) (hsz : ls.size = nL) (hst : st0 = As.reverse ++ .ref b :: rest)
    (hrm : 2 * (F0 m pc ls st0).monitorRoom + (rest.map fun v => v.category).sum ≤ 8) (hdg : decode cc pc = .ok (.invokevirtual index, 3)) (hf : cells + mc' ≤ R.cells ∧ slots + ms' ≤ R.slots) (hm : cells + mc' ≤ mc ∧ slots + ms' ≤ ms)
    (kk : ∀ (u : gk_C) (H1 : Heap) (locs1 : List Loc), Qr u → gk_W D cI ad u H1 → va_S (gk_A ad s.heap.size) s.heap H1 locs1 → W p l e R s m args below meth c H1 locs1 (cells + mc') (slots + ms') (vx_MQ below Qc (gk_XT D cI ad T s.heap.size) args s mc ms (gk_A ad s.heap.size)) (F0 m (pc + 3) ls rest)) :
    W p l e R s m args below meth c H locs cells slots (vx_MQ below Qc (gk_XT D cI ad T s.heap.size) args s mc ms (gk_A ad s.heap.size)) (F0 m pc ls st0) := by
  obtain ⟨hx, hb, hml, hown, hts, hr, hlocks⟩ := C0
  have up : ∀ q, gk_A ad H.size q → gk_A ad s.heap.size q := gk_A.up hS.1
  refine vx_callv (A0 := gk_A ad s.heap.size) (H0 := s.heap) (vx_runV (As := As) (rest := rest) ⟨hx, hb, hml, hown, hts⟩ hM cw ⟨gk_Pt.blind, hrecv, fun U hU hW' => ⟨rfl, by rw [hU], by rw [hU]; exact hW, hK.warm hW', ?_⟩⟩ rfl hn hsz hst hrm hdg hf) hS (fun q _ h => up q h) up (fun q _ h => up q h) ?_ ?_
  · show gk_Y q1 q2 q3 (gk_A ad H.size) U U.heap
    rw [hU]
    exact ((hY.kept (fun a h1 h2 => hS.2.1 a h1 h2)).warm hW').narrow up
  · intro E ce q9 u t H1 locs1 hH ha hu hE hz hq hS1 hc1 hc2 hc3
    exact vx_out (fun x hx => (ht x hx).elim) hlocks hc1 hc2 hc3 (fun t2 h2 _ => ⟨u, hu, ⟨hE.1, by rw [h2, ← hH]; exact hE.2⟩, hS1.F h2⟩) hS1.2.2 hm.1 hm.2
  · intro u t H1 locs1 hH ha hu hB hz hq hS1
    exact kk u H1 locs1 hu (by rw [← hH]; exact hB) hS1
end GKT
set_option maxRecDepth 20000 in
theorem gk_at1 : (∀ w ∈ (vx_atS RX8 297 gk_E1 gk_En).filter goodWord, w ∈ gk_BG) ∧ (∀ w ∈ (vx_atS RX8 297 gk_E1 gk_En).filter (fun w => !goodWord w), w ∈ gk_NO) := ⟨by decide +kernel, by decide +kernel⟩
set_option maxRecDepth 20000 in
theorem gk_at2 : (∀ w ∈ (vx_atS RX8 304 gk_E2 gk_En).filter goodWord, w ∈ gk_BG) ∧ (∀ w ∈ (vx_atS RX8 304 gk_E2 gk_En).filter (fun w => !goodWord w), w ∈ gk_NO) := ⟨by decide +kernel, by decide +kernel⟩
set_option maxRecDepth 20000 in
theorem gk_at3 : (∀ w ∈ (vx_atS RX8 309 gk_E3 gk_En).filter goodWord, w ∈ gk_BG) ∧ (∀ w ∈ (vx_atS RX8 309 gk_E3 gk_En).filter (fun w => !goodWord w), w ∈ gk_NO) := ⟨by decide +kernel, by decide +kernel⟩
theorem gk_in1 : Cond.initialized gk_E1 ∈ gk_BG := gk_bg 44 (by decide +kernel) (by decide +kernel)
theorem gk_in2 : Cond.initialized gk_E2 ∈ gk_BG := gk_bg 42 (by decide +kernel) (by decide +kernel)
theorem gk_in3 : Cond.initialized gk_E3 ∈ gk_BG := gk_bg 43 (by decide +kernel) (by decide +kernel)
abbrev rmX8_checkThere : Room := { frames := 6, cells := 1, slots := 6, locals := 82 }
def w_X8_checkThere (a0 : Int32) (T : String → Prop) (Q : Prop) : Prop := (¬ a0 = 0 → Q) ∧ (a0 = 0 → T gk_E1)
set_option maxHeartbeats 4000000 in
set_option maxRecDepth 20000 in
theorem c_X8_checkThere (l : Launch) (hl : l.stackTraces = false) {q1 q2 q3 : Nat} {a0 : Int32} {T : String → Prop} {Q : Prop} (hw : w_X8_checkThere a0 T Q) : vx_Met l yX8_checkThere wsX8_checkThere rmX8_checkThere (gk_Pk q1 q2 q3 [.int a0]) (va_Qv (fun _ : Unit => Q) gk_Bn gk_An) (gk_Xk T) 1 6 gk_An := by
  refine vx_ofW (cc := cX8_checkThere) (maxL := 1) (ret := none) (by decide) rfl ?_
  intro p e s m args below meth c s₁ B hml0 ht hv0
  obtain ⟨rfl, hY⟩ := hv0
  have C0 : gk_F p s m ([.int a0] : List Value).toArray meth c cX8_checkThere 1 none RX8 := ⟨B.exec, B.bytes, hml0, findClass_of_methodNamed B.named, fun w hw => atoms_spec (ws := wsX8_checkThere) B.pre w (List.mem_cons_of_mem _ hw), B.returns, B.notSynchronized⟩
  obtain ⟨hx, hb, hml, hown, hts, hr, hlocks⟩ := id C0
  have hl0 := lv_entry ([.int a0]) (n := 1) (Nat.le_of_ble_eq_true rfl)
  rw [lg_entry_eq]
  generalize (lg_sl ([.int a0]) ++ List.replicate (1 - (lg_sl ([.int a0])).length) Slot.unset).toArray = ls at hl0 ⊢
  have hl0 : lv_has ls 1 [(0, .int a0)] := hl0
  show W p l e rmX8_checkThere s m _ below meth c s.heap [] 0 0 _ _
  refine lv_iload_n hx hb dX8_checkThere_0 rfl (lv_at hl0 0 rfl) ?_
  refine lv_if_ne (tgt := 15) hx hb dX8_checkThere_1 (by decide) (fun c1 => ?_) (fun c1 => ?_)
  · refine W.widen (k := 1) (n := 6) (by decide) (by decide) ?_
    refine vx_ret ?_
    exact W.vret C0.1 C0.2.1 C0.2.2.2.2.2.1 (fun t ht _ => ⟨⟨(), rfl, hw.1 c1, trivial⟩, va_S.rf.F ht⟩) (fun z hz => nomatch hz) dX8_checkThere_15 (hlocks := C0.2.2.2.2.2.2)
  · exact gk_throw C0 hl ht hY (by decide +kernel) cl_X8_293 gk_in1 hY.1.1 gk_at1.1 gk_at1.2 (by decide +kernel) hl0.1 dX8_checkThere_4 dX8_checkThere_7 dX8_checkThere_8 dX8_checkThere_11 dX8_checkThere_14 (by decide) (hw.2 c1)
abbrev rmX8_checkArguments : Room := { frames := 6, cells := 1, slots := 6, locals := 82 }
def w_X8_checkArguments (a0 : Int32) (T : String → Prop) (Q : Prop) : Prop := (¬ a0 = 0 → Q) ∧ (a0 = 0 → T gk_E2)
set_option maxHeartbeats 4000000 in
set_option maxRecDepth 20000 in
theorem c_X8_checkArguments (l : Launch) (hl : l.stackTraces = false) {q1 q2 q3 : Nat} {a0 : Int32} {T : String → Prop} {Q : Prop} (hw : w_X8_checkArguments a0 T Q) : vx_Met l yX8_checkArguments wsX8_checkArguments rmX8_checkArguments (gk_Pk q1 q2 q3 [.int a0]) (va_Qv (fun _ : Unit => Q) gk_Bn gk_An) (gk_Xk T) 1 6 gk_An := by
  refine vx_ofW (cc := cX8_checkArguments) (maxL := 1) (ret := none) (by decide) rfl ?_
  intro p e s m args below meth c s₁ B hml0 ht hv0
  obtain ⟨rfl, hY⟩ := hv0
  have C0 : gk_F p s m ([.int a0] : List Value).toArray meth c cX8_checkArguments 1 none RX8 := ⟨B.exec, B.bytes, hml0, findClass_of_methodNamed B.named, fun w hw => atoms_spec (ws := wsX8_checkArguments) B.pre w (List.mem_cons_of_mem _ hw), B.returns, B.notSynchronized⟩
  obtain ⟨hx, hb, hml, hown, hts, hr, hlocks⟩ := id C0
  have hl0 := lv_entry ([.int a0]) (n := 1) (Nat.le_of_ble_eq_true rfl)
  rw [lg_entry_eq]
  generalize (lg_sl ([.int a0]) ++ List.replicate (1 - (lg_sl ([.int a0])).length) Slot.unset).toArray = ls at hl0 ⊢
  have hl0 : lv_has ls 1 [(0, .int a0)] := hl0
  show W p l e rmX8_checkArguments s m _ below meth c s.heap [] 0 0 _ _
  refine lv_iload_n hx hb dX8_checkArguments_0 rfl (lv_at hl0 0 rfl) ?_
  refine lv_if_ne (tgt := 15) hx hb dX8_checkArguments_1 (by decide) (fun c1 => ?_) (fun c1 => ?_)
  · refine W.widen (k := 1) (n := 6) (by decide) (by decide) ?_
    refine vx_ret ?_
    exact W.vret C0.1 C0.2.1 C0.2.2.2.2.2.1 (fun t ht _ => ⟨⟨(), rfl, hw.1 c1, trivial⟩, va_S.rf.F ht⟩) (fun z hz => nomatch hz) dX8_checkArguments_15 (hlocks := C0.2.2.2.2.2.2)
  · exact gk_throw C0 hl ht hY (by decide +kernel) cl_X8_300 gk_in2 hY.1.2.1 gk_at2.1 gk_at2.2 (by decide +kernel) hl0.1 dX8_checkArguments_4 dX8_checkArguments_7 dX8_checkArguments_8 dX8_checkArguments_11 dX8_checkArguments_14 (by decide) (hw.2 c1)
abbrev rmX8_checkState : Room := { frames := 6, cells := 1, slots := 6, locals := 82 }
def w_X8_checkState (a0 : Int32) (T : String → Prop) (Q : Prop) : Prop := (¬ a0 = 0 → Q) ∧ (a0 = 0 → T gk_E3)
set_option maxHeartbeats 4000000 in
set_option maxRecDepth 20000 in
theorem c_X8_checkState (l : Launch) (hl : l.stackTraces = false) {q1 q2 q3 : Nat} {a0 : Int32} {T : String → Prop} {Q : Prop} (hw : w_X8_checkState a0 T Q) : vx_Met l yX8_checkState wsX8_checkState rmX8_checkState (gk_Pk q1 q2 q3 [.int a0]) (va_Qv (fun _ : Unit => Q) gk_Bn gk_An) (gk_Xk T) 1 6 gk_An := by
  refine vx_ofW (cc := cX8_checkState) (maxL := 1) (ret := none) (by decide) rfl ?_
  intro p e s m args below meth c s₁ B hml0 ht hv0
  obtain ⟨rfl, hY⟩ := hv0
  have C0 : gk_F p s m ([.int a0] : List Value).toArray meth c cX8_checkState 1 none RX8 := ⟨B.exec, B.bytes, hml0, findClass_of_methodNamed B.named, fun w hw => atoms_spec (ws := wsX8_checkState) B.pre w (List.mem_cons_of_mem _ hw), B.returns, B.notSynchronized⟩
  obtain ⟨hx, hb, hml, hown, hts, hr, hlocks⟩ := id C0
  have hl0 := lv_entry ([.int a0]) (n := 1) (Nat.le_of_ble_eq_true rfl)
  rw [lg_entry_eq]
  generalize (lg_sl ([.int a0]) ++ List.replicate (1 - (lg_sl ([.int a0])).length) Slot.unset).toArray = ls at hl0 ⊢
  have hl0 : lv_has ls 1 [(0, .int a0)] := hl0
  show W p l e rmX8_checkState s m _ below meth c s.heap [] 0 0 _ _
  refine lv_iload_n hx hb dX8_checkState_0 rfl (lv_at hl0 0 rfl) ?_
  refine lv_if_ne (tgt := 15) hx hb dX8_checkState_1 (by decide) (fun c1 => ?_) (fun c1 => ?_)
  · refine W.widen (k := 1) (n := 6) (by decide) (by decide) ?_
    refine vx_ret ?_
    exact W.vret C0.1 C0.2.1 C0.2.2.2.2.2.1 (fun t ht _ => ⟨⟨(), rfl, hw.1 c1, trivial⟩, va_S.rf.F ht⟩) (fun z hz => nomatch hz) dX8_checkState_15 (hlocks := C0.2.2.2.2.2.2)
  · exact gk_throw C0 hl ht hY (by decide +kernel) cl_X8_305 gk_in3 hY.1.2.2 gk_at3.1 gk_at3.2 (by decide +kernel) hl0.1 dX8_checkState_4 dX8_checkState_7 dX8_checkState_8 dX8_checkState_11 dX8_checkState_14 (by decide) (hw.2 c1)
