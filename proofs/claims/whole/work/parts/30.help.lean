/-! ===== the law's helpers: one call of the gate, its refusal caught ===== -/
def gk_lo (D : va_G) (cL : ClassId) (oa : Nat) (o : Int64) (H : Heap) : Prop := ∃ f : Nat → Int64, f 0 = o ∧ va_at D vwCl (oa, .inl (cL, (1, .inr (.inl f)))) H
theorem gk_lo.kept {D : va_G} {cL : ClassId} {oa : Nat} {o : Int64} {H H1 : Heap} (h : gk_lo D cL oa o H) (hq : H1[oa]? = H[oa]?) : gk_lo D cL oa o H1 := by
  obtain ⟨f, h1, h2⟩ := h
  exact ⟨f, h1, h2.kept hq⟩
theorem gk_lo.lt {D : va_G} {cL : ClassId} {oa : Nat} {o : Int64} {H : Heap} (h : gk_lo D cL oa o H) : oa < H.size := by
  obtain ⟨f, h1, h2⟩ := h
  exact h2.lt
def gk_Al (ad : Nat → Nat) (oa sz : Nat) : Nat → Prop := fun q => q = oa ∨ gk_A ad sz q
theorem gk_Al.up {ad : Nat → Nat} {oa sz sz' : Nat} (h : sz ≤ sz') : ∀ q, gk_Al ad oa sz' q → gk_Al ad oa sz q := fun q h1 => h1.elim Or.inl (fun h2 => Or.inr (gk_A.up h q h2))
/-- none of the three refusals passes for another -/
def gk_NC (U : State) : Prop := va_Nc gk_E1 gk_E2 U ∧ va_Nc gk_E1 gk_E3 U ∧ va_Nc gk_E2 gk_E1 U ∧ va_Nc gk_E2 gk_E3 U ∧ va_Nc gk_E3 gk_E1 U ∧ va_Nc gk_E3 gk_E2 U
theorem gk_NC.moved {u U : State} (hvm : u.vm.Alike U.vm) (h : gk_NC u) : gk_NC U := ⟨h.1.moved hvm, h.2.1.moved hvm, h.2.2.1.moved hvm, h.2.2.2.1.moved hvm, h.2.2.2.2.1.moved hvm, h.2.2.2.2.2.moved hvm⟩
def gk_Pl (D : va_G) (cI cZ cG cL : ClassId) (ad : Nat → Nat) (q1 q2 q3 oa : Nat) (av : List Value) (sz : Nat) (σ : gk_C) (o : Int64) : Array Value → State → Prop := va_Pc av (fun U => U.heap.size = sz ∧ gk_W D cI ad σ U.heap ∧ gk_lo D cL oa o U.heap ∧ (∀ k, k < 87 → oa ≠ ad k) ∧ gk_K D cI cZ cG cL U ∧ gk_Y q1 q2 q3 (gk_Al ad oa sz) U U.heap ∧ gk_NC U)
theorem gk_Pl.blind {D : va_G} {cI cZ cG cL : ClassId} {ad : Nat → Nat} {q1 q2 q3 oa : Nat} {av : List Value} {sz : Nat} {σ : gk_C} {o : Int64} : FrameBlind (gk_Pl D cI cZ cG cL ad q1 q2 q3 oa av sz σ o) := fun _ U _ _ q => ⟨q.1, q.2.1, q.2.2.1, q.2.2.2.1, q.2.2.2.2.1, gk_K.blind q.2.2.2.2.2.1, gk_Y.blind q.2.2.2.2.2.2.1, gk_NC.moved (Vm.Alike.refl U.vm) q.2.2.2.2.2.2.2⟩
abbrev gk_Ql (D : va_G) (cI cL : ClassId) (ad : Nat → Nat) (oa : Nat) (Q : Int32 → gk_C → Int64 → Prop) (sz : Nat) : Array Value → State → Outcome → State → Prop := va_Qi (fun r (u : gk_C × Int64) => Q r u.1 u.2) (fun u t => gk_W D cI ad u.1 t.heap ∧ gk_lo D cL oa u.2 t.heap) (gk_Al ad oa sz)
abbrev gk_XF : String → State → State → Prop := vx_X (fun _ : Unit => False) (fun _ _ _ => True) gk_An
section GKH
variable {p : Program} {l : Launch} {e : Env} {R : Room} {s : State} {m : MethodId} {args : Array Value} {below : List Frame} {meth : Method} {c : Code} {H : Heap} {locs : List Loc} {cells slots : Nat} {Q : State → Prop}
variable {D : va_G} {cI cZ cG cL : ClassId} {ad : Nat → Nat} {σ : gk_C} {cc : ByteArray} {pc nL : Nat} {ls : Array Slot} {rest st0 : List Value} {A : Nat → Prop} {H0 : Heap}
variable {y : MethodName} {ws : List Cond} {rm : Room} {own C : String} {index n maxL : Nat} {bytes : ByteArray} {ret ret' : Option FieldType} {Ts : List Cond} {b : Addr} {As : List Value} {q1 q2 q3 mc ms oa : Nat} {o : Int64}
theorem gk_last (hexec : p.tables.exec = Jvm.exec) (hb : c.code = cc) (hK : gk_K D cI cZ cG cL s) (hS : va_S A H0 H locs) (hA : A oa) (h : gk_lo D cL oa o H) {x : Int64} (hdg : decode cc pc = .ok (.lastore, 1))
    (kk : ∀ (H1 : Heap) (locs1 : List Loc), gk_lo D cL oa x H1 → H1.size = H.size → (∀ q, q ≠ oa → H1[q]? = H[q]?) → va_S A H0 H1 locs1 → W p l e R s m args below meth c H1 locs1 cells slots Q (F0 m (pc + 1) ls rest)) : W p l e R s m args below meth c H locs cells slots Q (F0 m pc ls (.long x :: .int 0 :: .ref oa :: rest)) := by
  obtain ⟨f, h1, h2⟩ := h
  refine W.last hexec hb h2 ((hK.1.2 3 (cL, .long) rfl).1 1 (fun j => .long (f j))) (fun q => by cases q) (by show ¬ ((0 : Int32) < 0 ∨ (arrV _ _ _).slots.size ≤ _); rw [arrV_size]; show ¬ ((0 : Int32) < 0 ∨ 1 ≤ Int32.toNatClampNeg 0); decide) rfl rfl hdg fun H1 e z oq => ?_
  refine kk H1 _ ⟨vp_updL f 0 x, by simp [vp_updL], ?_⟩ z oq (hS.put z oq hA)
  show H1[oa]? = some (vp_cell _ _)
  rw [e]
  rw [vp_cell_l, vp_cell_l]
  show some (Cell.setSlot _ 0 _) = _
  rw [arrV_store]
  congr 2
  funext q
  by_cases hq : q = 0
  · subst hq
    simp [updV, vp_updL]
  · simp [updV, vp_updL, hq]
/-- a method that may throw is called; what it throws comes back -/
theorem gk_callTi {T : String → gk_C → Prop} {Qr : Int32 → gk_C → Prop} (C0 : CallFix p m c cc nL s args Ts own) (hM : vx_Met l y ws rm (gk_Pt D cI cZ cG cL ad q1 q2 q3 (.ref b :: As) H.size σ) (va_Qi Qr (gk_B D cI ad) (gk_A ad H.size)) (gk_XT D cI ad T H.size) mc ms (gk_A ad H.size))
    (cw : CallW R s args own C index y bytes maxL ret' ws rm mc ms n) (hrecv : ∃ cell : Cell, H[b]? = some cell ∧ cell.vm.isStatics = false ∧ s.vm.findClass C = some cell.cls) (hW : gk_W D cI ad σ H) (hK : gk_K D cI cZ cG cL s) (hY : gk_Y q1 q2 q3 A s s.heap) (hS : va_S A s.heap H locs) (hA : ∀ q, gk_A ad H.size q → A q) (hn : As.length = n) (hsz : ls.size = nL) (hst : st0 = As.reverse ++ .ref b :: rest)
    (hrm : 2 * (F0 m pc ls st0).monitorRoom + (rest.map fun v => v.category).sum ≤ 8) (hdg : decode cc pc = .ok (.invokevirtual index, 3)) (hf : cells + mc ≤ R.cells ∧ slots + ms ≤ R.slots)
    (kx : ∀ (E : String) (ce : Cell) (q9 : Addr) (u : gk_C) (H1 : Heap) (locs1 : List Loc), T E u → gk_W D cI ad u H1 → (∀ q : Nat, q < H.size → ¬ gk_A ad H.size q → H1[q]? = H[q]?) → va_S A s.heap H1 locs1 → H1[q9]? = some ce → ce.vm = .none → s.vm.findClass E = some ce.cls → vx_W p l e R s m args below meth c H1 locs1 (cells + mc) (slots + ms) Q (F0 m pc ls rest) q9)
    (kk : ∀ (r : Int32) (u : gk_C) (H1 : Heap) (locs1 : List Loc), Qr r u → gk_W D cI ad u H1 → (∀ q : Nat, q < H.size → ¬ gk_A ad H.size q → H1[q]? = H[q]?) → va_S A s.heap H1 locs1 → W p l e R s m args below meth c H1 locs1 (cells + mc) (slots + ms) Q (F0 m (pc + 3) ls (.int r :: rest))) :
    W p l e R s m args below meth c H locs cells slots Q (F0 m pc ls st0) := by
  refine vx_calli (A0 := A) (H0 := s.heap) (vx_runV (As := As) (rest := rest) C0 hM cw ⟨gk_Pt.blind, hrecv, fun U hU hW' => ⟨rfl, by rw [hU], by rw [hU]; exact hW, hK.warm hW', ?_⟩⟩ rfl hn hsz hst hrm hdg hf) hS (fun q _ h => hA q h) hA (fun q _ h => hA q h) ?_ ?_
  · show gk_Y q1 q2 q3 (gk_A ad H.size) U U.heap
    rw [hU]
    exact ((hY.kept (fun a h1 h2 => hS.2.1 a h1 h2)).warm hW').narrow hA
  · intro E ce q9 u t H1 locs1 hH ha hu hE hz hq hS1 hc1 hc2 hc3
    exact kx E ce q9 u.2 H1 locs1 (by rw [hE.1]; exact hu) (by rw [← hH]; exact hE.2) hq hS1 hc1 hc2 hc3
  · intro r u t H1 locs1 hH ha hu hB hz hq hS1
    exact kk r u H1 locs1 hu (by rw [← hH]; exact hB) hq hS1
end GKH
theorem gk_rethl {p : Program} {l : Launch} {e : Env} {R : Room} {s : State} {m : MethodId} {args : Array Value} {below : List Frame} {meth : Method} {c : Code} {H : Heap} {locs : List Loc} {cells slots : Nat} {D : va_G} {cI cL : ClassId} {ad : Nat → Nat} {cc : ByteArray} {pc nL : Nat} {ls : Array Slot} {own : String} {oa : Nat} {Q : Int32 → gk_C → Int64 → Prop} {v : Int32} {u : gk_C × Int64} (C0 : gk_F p s m args meth c cc nL (some .int) own) (hq : Q v u.1 u.2) (hW : gk_W D cI ad u.1 H) (hO : gk_lo D cL oa u.2 H) (hS : va_S (gk_Al ad oa s.heap.size) s.heap H locs) (hdg : decode cc pc = .ok (.ireturn, 1)) :
    W p l e R s m args below meth c H locs cells slots (MQ below (gk_Ql D cI cL ad oa Q s.heap.size) args s cells slots (gk_Al ad oa s.heap.size)) (F0 m pc ls [.int v]) :=
  W.iret (v := v) C0.1 C0.2.1 C0.2.2.2.2.2.1 (fun t ht _ => ⟨⟨v, u, rfl, hq, by show gk_W D cI ad u.1 t.heap ∧ gk_lo D cL oa u.2 t.heap; rw [ht]; exact ⟨hW, hO⟩⟩, hS.F ht⟩) hS.2.2 hdg (hlocks := C0.2.2.2.2.2.2)
def w_L_addUser (σ : gk_C) (o : Int64) (a0 : Int32) (a1 : Int32) (Q : Int32 → gk_C → Int64 → Prop) : Prop := w_X8_addUser σ a0 a1 (fun E u => (E = gk_E2 ∧ Q 1 u o) ∨ (E = gk_E3 ∧ Q 2 u o)) (fun r u => Q 0 u r.toInt64)
abbrev rmL_addUser : Room := { frames := 8, cells := 2, slots := 12, locals := 124 }
set_option maxHeartbeats 4000000 in
set_option maxRecDepth 100000 in
theorem c_L_addUser (l : Launch) (hfl : l.stackTraces = false) (D : va_G) (cI cZ cG cL : ClassId) (ad : Nat → Nat) (q1 q2 q3 oa : Nat) {σ : gk_C} {o : Int64} {a0 : Int32} {a1 : Int32} {Q : Int32 → gk_C → Int64 → Prop} {sz : Nat} (hw : w_L_addUser σ o a0 a1 Q) : vx_Met l yL_addUser wsL_addUser rmL_addUser (gk_Pl D cI cZ cG cL ad q1 q2 q3 oa [.ref (ad 0), .int a0, .int a1, .ref oa] sz σ o) (gk_Ql D cI cL ad oa Q sz) gk_XF 2 12 (gk_Al ad oa sz) := by
  refine vx_ofWH (cc := cL_addUser) (maxL := 5) (ret := (some .int)) (by decide) rfl ?_
  intro p e s m args below meth c s₁ B hml0 hv0
  obtain ⟨rfl, hsz, hW, hO, hne, hK, hY, hN⟩ := hv0
  subst hsz
  have C0 : gk_F p s m ([.ref (ad 0), .int a0, .int a1, .ref oa] : List Value).toArray meth c cL_addUser 5 (some .int) RL := ⟨B.exec, B.bytes, hml0, findClass_of_methodNamed B.named, fun w hw => atoms_spec (ws := wsL_addUser) B.pre w (List.mem_cons_of_mem _ hw), B.returns, B.notSynchronized⟩
  obtain ⟨hx, hb, hml, hown, hts, hr, hlocks⟩ := id C0
  have htab := vx_table (x := yL_addUser) B (atoms_spec (ws := wsL_addUser) B.pre _ List.mem_cons_self)
  have hS : va_S (gk_Al ad oa s.heap.size) s.heap s.heap [] := va_S.rf
  have hoa := hO.lt
  have hl := lv_entry ([.ref (ad 0), .int a0, .int a1, .ref oa]) (n := 5) (Nat.le_of_ble_eq_true rfl)
  rw [lg_entry_eq]
  generalize (lg_sl ([.ref (ad 0), .int a0, .int a1, .ref oa]) ++ List.replicate (5 - (lg_sl ([.ref (ad 0), .int a0, .int a1, .ref oa])).length) Slot.unset).toArray = ls at hl ⊢
  have hl : lv_has ls 5 [(0, .ref (ad 0)), (1, .int a0), (2, .int a1), (3, .ref oa)] := hl
  show W p l e rmL_addUser s m _ below meth c s.heap [] 0 0 _ _
  refine lv_aload_n hx hb dL_addUser_0 rfl (lv_at hl 3 rfl) ?_
  refine lv_iconst (v := 0) hx hb dL_addUser_1 (by decide) ?_
  refine lv_aload_n hx hb dL_addUser_2 rfl (lv_at hl 0 rfl) ?_
  refine lv_iload_n hx hb dL_addUser_3 rfl (lv_at hl 1 rfl) ?_
  refine lv_iload_n hx hb dL_addUser_4 rfl (lv_at hl 2 rfl) ?_
  refine gk_callTi ⟨hx, hb, hml, hown, hts⟩ (c_X8_addUser l hfl D cI cZ cG cL ad q1 q2 q3 hw) (cwV 2 hts (gk_gV ml_L_7 im_X8_addUser se_X8_addUser in_X8 co_X8_addUser) rfl rfl rfl (by decide +kernel) ⟨Nat.le_of_ble_eq_true rfl, Nat.le_of_ble_eq_true rfl⟩) (gk_recv hK.1 (gk_o0 hW) rfl) hW hK hY hS (fun q h => Or.inr h) rfl hl.1 (rest := [.int 0, .ref oa]) rfl (lv_room (Nat.le_of_ble_eq_true rfl)) dL_addUser_5 ⟨Nat.le_of_ble_eq_true rfl, Nat.le_of_ble_eq_true rfl⟩ (fun E ce q9 u H locs hT hW hk hS hc1 hc2 hc3 => ?_) (fun r u H locs hw hW hk hS => ?_)
  · have hO := hO.kept (hk _ hoa (fun h => h.elim (fun ⟨k, h1, h2⟩ => hne k h1 h2) (fun h => absurd hoa (Nat.not_lt.mpr h))))
    rcases hT with ⟨rfl, hw⟩ | ⟨rfl, hw⟩
    · refine vx_catch hown [] ⟨0, 10, 13, 13⟩ [⟨0, 10, 17, 15⟩] (by rw [htab]; rfl) (fun z hz => nomatch hz) (by decide) (by decide) (hts _ cl_L_13) (va_Nw.use rfl (hY.2.1 _ (by decide))) hc1 hc2 hc3 ?_
      refine lv_astore (lv' := [(4, .ref q9), (0, .ref (ad 0)), (1, .int a0), (2, .int a1), (3, .ref oa)]) hx hb dL_addUser_13 hl (by decide) rfl (fun ls hl => ?_)
      refine lv_iconst (v := 1) hx hb dL_addUser_15 (by decide) ?_
      refine vx_ret ?_
      exact gk_rethl C0 (u := (_, _)) hw hW hO hS dL_addUser_16
    · have hp : ∀ z ∈ ([⟨0, 10, 13, 13⟩] : List ExceptionTableEntry), covers z 5 = false ∨ (z.catchType ≠ 0 ∧ ∃ nm : String, (Cond.classLink RL z.catchType nm).before ([.ref (ad 0), .int a0, .int a1, .ref oa] : List Value).toArray s = true ∧ va_Nc gk_E3 nm s) := by
        intro z hz
        simp only [List.mem_cons, List.not_mem_nil, or_false] at hz
        subst hz
        exact Or.inr ⟨by decide, gk_E2, hts _ cl_L_13, hN.2.2.2.2.2⟩
      refine vx_catch hown [⟨0, 10, 13, 13⟩] ⟨0, 10, 17, 15⟩ [] (by rw [htab]; rfl) hp (by decide) (by decide) (hts _ cl_L_15) (va_Nw.use rfl (hY.2.1 _ (by decide))) hc1 hc2 hc3 ?_
      refine lv_astore (lv' := [(4, .ref q9), (0, .ref (ad 0)), (1, .int a0), (2, .int a1), (3, .ref oa)]) hx hb dL_addUser_17 hl (by decide) rfl (fun ls hl => ?_)
      refine lv_iconst (v := 2) hx hb dL_addUser_19 (by decide) ?_
      refine vx_ret ?_
      exact gk_rethl C0 (u := (_, _)) hw hW hO hS dL_addUser_20
  · have hO := hO.kept (hk _ hoa (fun h => h.elim (fun ⟨k, h1, h2⟩ => hne k h1 h2) (fun h => absurd hoa (Nat.not_lt.mpr h))))
    refine lv_i2l (v := r.toInt64) hx hb dL_addUser_8 rfl ?_
    refine gk_last hx hb hK hS (Or.inl rfl) hO dL_addUser_9 (fun H locs hO z1 oq hS => ?_)
    have hW := hW.kept (fun k hk9 => oq _ (fun e => hne k hk9 e.symm))
    refine lv_goto (tgt := 21) hx hb dL_addUser_10 (by decide) ?_
    refine lv_iconst (v := 0) hx hb dL_addUser_21 (by decide) ?_
    refine vx_ret ?_
    exact gk_rethl C0 (u := (_, _)) hw hW hO hS dL_addUser_22
def w_L_addRole (σ : gk_C) (o : Int64) (Q : Int32 → gk_C → Int64 → Prop) : Prop := w_X8_addRole σ  (fun E u => (E = gk_E3 ∧ Q 1 u o)) (fun r u => Q 0 u r.toInt64)
abbrev rmL_addRole : Room := { frames := 8, cells := 1, slots := 6, locals := 122 }
set_option maxHeartbeats 4000000 in
set_option maxRecDepth 100000 in
theorem c_L_addRole (l : Launch) (hfl : l.stackTraces = false) (D : va_G) (cI cZ cG cL : ClassId) (ad : Nat → Nat) (q1 q2 q3 oa : Nat) {σ : gk_C} {o : Int64} {Q : Int32 → gk_C → Int64 → Prop} {sz : Nat} (hw : w_L_addRole σ o  Q) : vx_Met l yL_addRole wsL_addRole rmL_addRole (gk_Pl D cI cZ cG cL ad q1 q2 q3 oa [.ref (ad 0), .ref oa] sz σ o) (gk_Ql D cI cL ad oa Q sz) gk_XF 1 6 (gk_Al ad oa sz) := by
  refine vx_ofWH (cc := cL_addRole) (maxL := 3) (ret := (some .int)) (by decide) rfl ?_
  intro p e s m args below meth c s₁ B hml0 hv0
  obtain ⟨rfl, hsz, hW, hO, hne, hK, hY, hN⟩ := hv0
  subst hsz
  have C0 : gk_F p s m ([.ref (ad 0), .ref oa] : List Value).toArray meth c cL_addRole 3 (some .int) RL := ⟨B.exec, B.bytes, hml0, findClass_of_methodNamed B.named, fun w hw => atoms_spec (ws := wsL_addRole) B.pre w (List.mem_cons_of_mem _ hw), B.returns, B.notSynchronized⟩
  obtain ⟨hx, hb, hml, hown, hts, hr, hlocks⟩ := id C0
  have htab := vx_table (x := yL_addRole) B (atoms_spec (ws := wsL_addRole) B.pre _ List.mem_cons_self)
  have hS : va_S (gk_Al ad oa s.heap.size) s.heap s.heap [] := va_S.rf
  have hoa := hO.lt
  have hl := lv_entry ([.ref (ad 0), .ref oa]) (n := 3) (Nat.le_of_ble_eq_true rfl)
  rw [lg_entry_eq]
  generalize (lg_sl ([.ref (ad 0), .ref oa]) ++ List.replicate (3 - (lg_sl ([.ref (ad 0), .ref oa])).length) Slot.unset).toArray = ls at hl ⊢
  have hl : lv_has ls 3 [(0, .ref (ad 0)), (1, .ref oa)] := hl
  show W p l e rmL_addRole s m _ below meth c s.heap [] 0 0 _ _
  refine lv_aload_n hx hb dL_addRole_0 rfl (lv_at hl 1 rfl) ?_
  refine lv_iconst (v := 0) hx hb dL_addRole_1 (by decide) ?_
  refine lv_aload_n hx hb dL_addRole_2 rfl (lv_at hl 0 rfl) ?_
  refine gk_callTi ⟨hx, hb, hml, hown, hts⟩ (c_X8_addRole l hfl D cI cZ cG cL ad q1 q2 q3 hw) (cwV 0 hts (gk_gV ml_L_17 im_X8_addRole se_X8_addRole in_X8 co_X8_addRole) rfl rfl rfl (by decide +kernel) ⟨Nat.le_of_ble_eq_true rfl, Nat.le_of_ble_eq_true rfl⟩) (gk_recv hK.1 (gk_o0 hW) rfl) hW hK hY hS (fun q h => Or.inr h) rfl hl.1 (rest := [.int 0, .ref oa]) rfl (lv_room (Nat.le_of_ble_eq_true rfl)) dL_addRole_3 ⟨Nat.le_of_ble_eq_true rfl, Nat.le_of_ble_eq_true rfl⟩ (fun E ce q9 u H locs hT hW hk hS hc1 hc2 hc3 => ?_) (fun r u H locs hw hW hk hS => ?_)
  · have hO := hO.kept (hk _ hoa (fun h => h.elim (fun ⟨k, h1, h2⟩ => hne k h1 h2) (fun h => absurd hoa (Nat.not_lt.mpr h))))
    obtain ⟨rfl, hw⟩ := hT
    refine vx_catch hown [] ⟨0, 8, 11, 15⟩ [] (by rw [htab]; rfl) (fun z hz => nomatch hz) (by decide) (by decide) (hts _ cl_L_15) (va_Nw.use rfl (hY.2.1 _ (by decide))) hc1 hc2 hc3 ?_
    refine lv_astore_n (lv' := [(2, .ref q9), (0, .ref (ad 0)), (1, .ref oa)]) hx hb dL_addRole_11 rfl hl (by decide) rfl (fun ls hl => ?_)
    refine lv_iconst (v := 1) hx hb dL_addRole_12 (by decide) ?_
    refine vx_ret ?_
    exact gk_rethl C0 (u := (_, _)) hw hW hO hS dL_addRole_13
  · have hO := hO.kept (hk _ hoa (fun h => h.elim (fun ⟨k, h1, h2⟩ => hne k h1 h2) (fun h => absurd hoa (Nat.not_lt.mpr h))))
    refine lv_i2l (v := r.toInt64) hx hb dL_addRole_6 rfl ?_
    refine gk_last hx hb hK hS (Or.inl rfl) hO dL_addRole_7 (fun H locs hO z1 oq hS => ?_)
    have hW := hW.kept (fun k hk9 => oq _ (fun e => hne k hk9 e.symm))
    refine lv_goto (tgt := 14) hx hb dL_addRole_8 (by decide) ?_
    refine lv_iconst (v := 0) hx hb dL_addRole_14 (by decide) ?_
    refine vx_ret ?_
    exact gk_rethl C0 (u := (_, _)) hw hW hO hS dL_addRole_15
def w_L_addResource (σ : gk_C) (o : Int64) (a0 : Int32) (Q : Int32 → gk_C → Int64 → Prop) : Prop := w_X8_addResource σ a0 (fun E u => (E = gk_E1 ∧ Q 1 u o) ∨ (E = gk_E3 ∧ Q 2 u o)) (fun r u => Q 0 u r.toInt64)
abbrev rmL_addResource : Room := { frames := 8, cells := 2, slots := 12, locals := 123 }
set_option maxHeartbeats 4000000 in
set_option maxRecDepth 100000 in
theorem c_L_addResource (l : Launch) (hfl : l.stackTraces = false) (D : va_G) (cI cZ cG cL : ClassId) (ad : Nat → Nat) (q1 q2 q3 oa : Nat) {σ : gk_C} {o : Int64} {a0 : Int32} {Q : Int32 → gk_C → Int64 → Prop} {sz : Nat} (hw : w_L_addResource σ o a0 Q) : vx_Met l yL_addResource wsL_addResource rmL_addResource (gk_Pl D cI cZ cG cL ad q1 q2 q3 oa [.ref (ad 0), .int a0, .ref oa] sz σ o) (gk_Ql D cI cL ad oa Q sz) gk_XF 2 12 (gk_Al ad oa sz) := by
  refine vx_ofWH (cc := cL_addResource) (maxL := 4) (ret := (some .int)) (by decide) rfl ?_
  intro p e s m args below meth c s₁ B hml0 hv0
  obtain ⟨rfl, hsz, hW, hO, hne, hK, hY, hN⟩ := hv0
  subst hsz
  have C0 : gk_F p s m ([.ref (ad 0), .int a0, .ref oa] : List Value).toArray meth c cL_addResource 4 (some .int) RL := ⟨B.exec, B.bytes, hml0, findClass_of_methodNamed B.named, fun w hw => atoms_spec (ws := wsL_addResource) B.pre w (List.mem_cons_of_mem _ hw), B.returns, B.notSynchronized⟩
  obtain ⟨hx, hb, hml, hown, hts, hr, hlocks⟩ := id C0
  have htab := vx_table (x := yL_addResource) B (atoms_spec (ws := wsL_addResource) B.pre _ List.mem_cons_self)
  have hS : va_S (gk_Al ad oa s.heap.size) s.heap s.heap [] := va_S.rf
  have hoa := hO.lt
  have hl := lv_entry ([.ref (ad 0), .int a0, .ref oa]) (n := 4) (Nat.le_of_ble_eq_true rfl)
  rw [lg_entry_eq]
  generalize (lg_sl ([.ref (ad 0), .int a0, .ref oa]) ++ List.replicate (4 - (lg_sl ([.ref (ad 0), .int a0, .ref oa])).length) Slot.unset).toArray = ls at hl ⊢
  have hl : lv_has ls 4 [(0, .ref (ad 0)), (1, .int a0), (2, .ref oa)] := hl
  show W p l e rmL_addResource s m _ below meth c s.heap [] 0 0 _ _
  refine lv_aload_n hx hb dL_addResource_0 rfl (lv_at hl 2 rfl) ?_
  refine lv_iconst (v := 0) hx hb dL_addResource_1 (by decide) ?_
  refine lv_aload_n hx hb dL_addResource_2 rfl (lv_at hl 0 rfl) ?_
  refine lv_iload_n hx hb dL_addResource_3 rfl (lv_at hl 1 rfl) ?_
  refine gk_callTi ⟨hx, hb, hml, hown, hts⟩ (c_X8_addResource l hfl D cI cZ cG cL ad q1 q2 q3 hw) (cwV 1 hts (gk_gV ml_L_21 im_X8_addResource se_X8_addResource in_X8 co_X8_addResource) rfl rfl rfl (by decide +kernel) ⟨Nat.le_of_ble_eq_true rfl, Nat.le_of_ble_eq_true rfl⟩) (gk_recv hK.1 (gk_o0 hW) rfl) hW hK hY hS (fun q h => Or.inr h) rfl hl.1 (rest := [.int 0, .ref oa]) rfl (lv_room (Nat.le_of_ble_eq_true rfl)) dL_addResource_4 ⟨Nat.le_of_ble_eq_true rfl, Nat.le_of_ble_eq_true rfl⟩ (fun E ce q9 u H locs hT hW hk hS hc1 hc2 hc3 => ?_) (fun r u H locs hw hW hk hS => ?_)
  · have hO := hO.kept (hk _ hoa (fun h => h.elim (fun ⟨k, h1, h2⟩ => hne k h1 h2) (fun h => absurd hoa (Nat.not_lt.mpr h))))
    rcases hT with ⟨rfl, hw⟩ | ⟨rfl, hw⟩
    · refine vx_catch hown [] ⟨0, 9, 12, 25⟩ [⟨0, 9, 15, 15⟩] (by rw [htab]; rfl) (fun z hz => nomatch hz) (by decide) (by decide) (hts _ cl_L_25) (va_Nw.use rfl (hY.2.1 _ (by decide))) hc1 hc2 hc3 ?_
      refine lv_astore_n (lv' := [(3, .ref q9), (0, .ref (ad 0)), (1, .int a0), (2, .ref oa)]) hx hb dL_addResource_12 rfl hl (by decide) rfl (fun ls hl => ?_)
      refine lv_iconst (v := 1) hx hb dL_addResource_13 (by decide) ?_
      refine vx_ret ?_
      exact gk_rethl C0 (u := (_, _)) hw hW hO hS dL_addResource_14
    · have hp : ∀ z ∈ ([⟨0, 9, 12, 25⟩] : List ExceptionTableEntry), covers z 4 = false ∨ (z.catchType ≠ 0 ∧ ∃ nm : String, (Cond.classLink RL z.catchType nm).before ([.ref (ad 0), .int a0, .ref oa] : List Value).toArray s = true ∧ va_Nc gk_E3 nm s) := by
        intro z hz
        simp only [List.mem_cons, List.not_mem_nil, or_false] at hz
        subst hz
        exact Or.inr ⟨by decide, gk_E1, hts _ cl_L_25, hN.2.2.2.2.1⟩
      refine vx_catch hown [⟨0, 9, 12, 25⟩] ⟨0, 9, 15, 15⟩ [] (by rw [htab]; rfl) hp (by decide) (by decide) (hts _ cl_L_15) (va_Nw.use rfl (hY.2.1 _ (by decide))) hc1 hc2 hc3 ?_
      refine lv_astore_n (lv' := [(3, .ref q9), (0, .ref (ad 0)), (1, .int a0), (2, .ref oa)]) hx hb dL_addResource_15 rfl hl (by decide) rfl (fun ls hl => ?_)
      refine lv_iconst (v := 2) hx hb dL_addResource_16 (by decide) ?_
      refine vx_ret ?_
      exact gk_rethl C0 (u := (_, _)) hw hW hO hS dL_addResource_17
  · have hO := hO.kept (hk _ hoa (fun h => h.elim (fun ⟨k, h1, h2⟩ => hne k h1 h2) (fun h => absurd hoa (Nat.not_lt.mpr h))))
    refine lv_i2l (v := r.toInt64) hx hb dL_addResource_7 rfl ?_
    refine gk_last hx hb hK hS (Or.inl rfl) hO dL_addResource_8 (fun H locs hO z1 oq hS => ?_)
    have hW := hW.kept (fun k hk9 => oq _ (fun e => hne k hk9 e.symm))
    refine lv_goto (tgt := 18) hx hb dL_addResource_9 (by decide) ?_
    refine lv_iconst (v := 0) hx hb dL_addResource_18 (by decide) ?_
    refine vx_ret ?_
    exact gk_rethl C0 (u := (_, _)) hw hW hO hS dL_addResource_19
def w_L_setRole (σ : gk_C) (o : Int64) (a0 : Int32) (a1 : Int32) (a2 : Int32) (Q : Int32 → gk_C → Int64 → Prop) : Prop := w_X8_setRole σ a0 a1 a2 (fun E u => (E = gk_E1 ∧ Q 1 u o) ∨ (E = gk_E3 ∧ Q 2 u o)) (fun r u => (¬ r = 0 → Q 0 u 1) ∧ (r = 0 → Q 0 u 0))
abbrev rmL_setRole : Room := { frames := 8, cells := 2, slots := 12, locals := 127 }
set_option maxHeartbeats 4000000 in
set_option maxRecDepth 100000 in
theorem c_L_setRole (l : Launch) (hfl : l.stackTraces = false) (D : va_G) (cI cZ cG cL : ClassId) (ad : Nat → Nat) (q1 q2 q3 oa : Nat) {σ : gk_C} {o : Int64} {a0 : Int32} {a1 : Int32} {a2 : Int32} {Q : Int32 → gk_C → Int64 → Prop} {sz : Nat} (hw : w_L_setRole σ o a0 a1 a2 Q) : vx_Met l yL_setRole wsL_setRole rmL_setRole (gk_Pl D cI cZ cG cL ad q1 q2 q3 oa [.ref (ad 0), .int a0, .int a1, .int a2, .ref oa] sz σ o) (gk_Ql D cI cL ad oa Q sz) gk_XF 2 12 (gk_Al ad oa sz) := by
  refine vx_ofWH (cc := cL_setRole) (maxL := 6) (ret := (some .int)) (by decide) rfl ?_
  intro p e s m args below meth c s₁ B hml0 hv0
  obtain ⟨rfl, hsz, hW, hO, hne, hK, hY, hN⟩ := hv0
  subst hsz
  have C0 : gk_F p s m ([.ref (ad 0), .int a0, .int a1, .int a2, .ref oa] : List Value).toArray meth c cL_setRole 6 (some .int) RL := ⟨B.exec, B.bytes, hml0, findClass_of_methodNamed B.named, fun w hw => atoms_spec (ws := wsL_setRole) B.pre w (List.mem_cons_of_mem _ hw), B.returns, B.notSynchronized⟩
  obtain ⟨hx, hb, hml, hown, hts, hr, hlocks⟩ := id C0
  have htab := vx_table (x := yL_setRole) B (atoms_spec (ws := wsL_setRole) B.pre _ List.mem_cons_self)
  have hS : va_S (gk_Al ad oa s.heap.size) s.heap s.heap [] := va_S.rf
  have hoa := hO.lt
  have hl := lv_entry ([.ref (ad 0), .int a0, .int a1, .int a2, .ref oa]) (n := 6) (Nat.le_of_ble_eq_true rfl)
  rw [lg_entry_eq]
  generalize (lg_sl ([.ref (ad 0), .int a0, .int a1, .int a2, .ref oa]) ++ List.replicate (6 - (lg_sl ([.ref (ad 0), .int a0, .int a1, .int a2, .ref oa])).length) Slot.unset).toArray = ls at hl ⊢
  have hl : lv_has ls 6 [(0, .ref (ad 0)), (1, .int a0), (2, .int a1), (3, .int a2), (4, .ref oa)] := hl
  show W p l e rmL_setRole s m _ below meth c s.heap [] 0 0 _ _
  refine lv_aload hx hb dL_setRole_0 (lv_at hl 4 rfl) ?_
  refine lv_iconst (v := 0) hx hb dL_setRole_2 (by decide) ?_
  refine lv_aload_n hx hb dL_setRole_3 rfl (lv_at hl 0 rfl) ?_
  refine lv_iload_n hx hb dL_setRole_4 rfl (lv_at hl 1 rfl) ?_
  refine lv_iload_n hx hb dL_setRole_5 rfl (lv_at hl 2 rfl) ?_
  refine lv_iload_n hx hb dL_setRole_6 rfl (lv_at hl 3 rfl) ?_
  refine gk_callTi ⟨hx, hb, hml, hown, hts⟩ (c_X8_setRole l hfl D cI cZ cG cL ad q1 q2 q3 hw) (cwV 3 hts (gk_gV ml_L_27 im_X8_setRole se_X8_setRole in_X8 co_X8_setRole) rfl rfl rfl (by decide +kernel) ⟨Nat.le_of_ble_eq_true rfl, Nat.le_of_ble_eq_true rfl⟩) (gk_recv hK.1 (gk_o0 hW) rfl) hW hK hY hS (fun q h => Or.inr h) rfl hl.1 (rest := [.int 0, .ref oa]) rfl (lv_room (Nat.le_of_ble_eq_true rfl)) dL_setRole_7 ⟨Nat.le_of_ble_eq_true rfl, Nat.le_of_ble_eq_true rfl⟩ (fun E ce q9 u H locs hT hW hk hS hc1 hc2 hc3 => ?_) (fun r u H locs hw hW hk hS => ?_)
  · have hO := hO.kept (hk _ hoa (fun h => h.elim (fun ⟨k, h1, h2⟩ => hne k h1 h2) (fun h => absurd hoa (Nat.not_lt.mpr h))))
    rcases hT with ⟨rfl, hw⟩ | ⟨rfl, hw⟩
    · refine vx_catch hown [] ⟨0, 19, 22, 25⟩ [⟨0, 19, 26, 15⟩] (by rw [htab]; rfl) (fun z hz => nomatch hz) (by decide) (by decide) (hts _ cl_L_25) (va_Nw.use rfl (hY.2.1 _ (by decide))) hc1 hc2 hc3 ?_
      refine lv_astore (lv' := [(5, .ref q9), (0, .ref (ad 0)), (1, .int a0), (2, .int a1), (3, .int a2), (4, .ref oa)]) hx hb dL_setRole_22 hl (by decide) rfl (fun ls hl => ?_)
      refine lv_iconst (v := 1) hx hb dL_setRole_24 (by decide) ?_
      refine vx_ret ?_
      exact gk_rethl C0 (u := (_, _)) hw hW hO hS dL_setRole_25
    · have hp : ∀ z ∈ ([⟨0, 19, 22, 25⟩] : List ExceptionTableEntry), covers z 7 = false ∨ (z.catchType ≠ 0 ∧ ∃ nm : String, (Cond.classLink RL z.catchType nm).before ([.ref (ad 0), .int a0, .int a1, .int a2, .ref oa] : List Value).toArray s = true ∧ va_Nc gk_E3 nm s) := by
        intro z hz
        simp only [List.mem_cons, List.not_mem_nil, or_false] at hz
        subst hz
        exact Or.inr ⟨by decide, gk_E1, hts _ cl_L_25, hN.2.2.2.2.1⟩
      refine vx_catch hown [⟨0, 19, 22, 25⟩] ⟨0, 19, 26, 15⟩ [] (by rw [htab]; rfl) hp (by decide) (by decide) (hts _ cl_L_15) (va_Nw.use rfl (hY.2.1 _ (by decide))) hc1 hc2 hc3 ?_
      refine lv_astore (lv' := [(5, .ref q9), (0, .ref (ad 0)), (1, .int a0), (2, .int a1), (3, .int a2), (4, .ref oa)]) hx hb dL_setRole_26 hl (by decide) rfl (fun ls hl => ?_)
      refine lv_iconst (v := 2) hx hb dL_setRole_28 (by decide) ?_
      refine vx_ret ?_
      exact gk_rethl C0 (u := (_, _)) hw hW hO hS dL_setRole_29
  · have hO := hO.kept (hk _ hoa (fun h => h.elim (fun ⟨k, h1, h2⟩ => hne k h1 h2) (fun h => absurd hoa (Nat.not_lt.mpr h))))
    refine lv_if_eq (tgt := 17) hx hb dL_setRole_10 (by decide) (fun c0 => ?_) (fun c0 => ?_)
    · have hw := hw.2 c0
      refine lv_lconst (v := 0) hx hb dL_setRole_17 (by decide) ?_
      refine gk_last hx hb hK hS (Or.inl rfl) hO dL_setRole_18 (fun H locs hO z1 oq hS => ?_)
      have hW := hW.kept (fun k hk9 => oq _ (fun e => hne k hk9 e.symm))
      refine lv_goto (tgt := 30) hx hb dL_setRole_19 (by decide) ?_
      refine lv_iconst (v := 0) hx hb dL_setRole_30 (by decide) ?_
      refine vx_ret ?_
      exact gk_rethl C0 (u := (_, _)) hw hW hO hS dL_setRole_31
    · have hw := hw.1 c0
      refine lv_lconst (v := 1) hx hb dL_setRole_13 (by decide) ?_
      refine lv_goto (tgt := 18) hx hb dL_setRole_14 (by decide) ?_
      refine gk_last hx hb hK hS (Or.inl rfl) hO dL_setRole_18 (fun H locs hO z1 oq hS => ?_)
      have hW := hW.kept (fun k hk9 => oq _ (fun e => hne k hk9 e.symm))
      refine lv_goto (tgt := 30) hx hb dL_setRole_19 (by decide) ?_
      refine lv_iconst (v := 0) hx hb dL_setRole_30 (by decide) ?_
      refine vx_ret ?_
      exact gk_rethl C0 (u := (_, _)) hw hW hO hS dL_setRole_31
def w_L_setHolds (σ : gk_C) (o : Int64) (a0 : Int32) (a1 : Int32) (a2 : Int32) (Q : Int32 → gk_C → Int64 → Prop) : Prop := w_X8_setHolds σ a0 a1 a2 (fun E u => (E = gk_E1 ∧ Q 1 u o) ∨ (E = gk_E2 ∧ Q 2 u o) ∨ (E = gk_E3 ∧ Q 3 u o)) (fun r u => (¬ r = 0 → Q 0 u 1) ∧ (r = 0 → Q 0 u 0))
abbrev rmL_setHolds : Room := { frames := 8, cells := 3, slots := 18, locals := 126 }
set_option maxHeartbeats 4000000 in
set_option maxRecDepth 100000 in
theorem c_L_setHolds (l : Launch) (hfl : l.stackTraces = false) (D : va_G) (cI cZ cG cL : ClassId) (ad : Nat → Nat) (q1 q2 q3 oa : Nat) {σ : gk_C} {o : Int64} {a0 : Int32} {a1 : Int32} {a2 : Int32} {Q : Int32 → gk_C → Int64 → Prop} {sz : Nat} (hw : w_L_setHolds σ o a0 a1 a2 Q) : vx_Met l yL_setHolds wsL_setHolds rmL_setHolds (gk_Pl D cI cZ cG cL ad q1 q2 q3 oa [.ref (ad 0), .int a0, .int a1, .int a2, .ref oa] sz σ o) (gk_Ql D cI cL ad oa Q sz) gk_XF 3 18 (gk_Al ad oa sz) := by
  refine vx_ofWH (cc := cL_setHolds) (maxL := 6) (ret := (some .int)) (by decide) rfl ?_
  intro p e s m args below meth c s₁ B hml0 hv0
  obtain ⟨rfl, hsz, hW, hO, hne, hK, hY, hN⟩ := hv0
  subst hsz
  have C0 : gk_F p s m ([.ref (ad 0), .int a0, .int a1, .int a2, .ref oa] : List Value).toArray meth c cL_setHolds 6 (some .int) RL := ⟨B.exec, B.bytes, hml0, findClass_of_methodNamed B.named, fun w hw => atoms_spec (ws := wsL_setHolds) B.pre w (List.mem_cons_of_mem _ hw), B.returns, B.notSynchronized⟩
  obtain ⟨hx, hb, hml, hown, hts, hr, hlocks⟩ := id C0
  have htab := vx_table (x := yL_setHolds) B (atoms_spec (ws := wsL_setHolds) B.pre _ List.mem_cons_self)
  have hS : va_S (gk_Al ad oa s.heap.size) s.heap s.heap [] := va_S.rf
  have hoa := hO.lt
  have hl := lv_entry ([.ref (ad 0), .int a0, .int a1, .int a2, .ref oa]) (n := 6) (Nat.le_of_ble_eq_true rfl)
  rw [lg_entry_eq]
  generalize (lg_sl ([.ref (ad 0), .int a0, .int a1, .int a2, .ref oa]) ++ List.replicate (6 - (lg_sl ([.ref (ad 0), .int a0, .int a1, .int a2, .ref oa])).length) Slot.unset).toArray = ls at hl ⊢
  have hl : lv_has ls 6 [(0, .ref (ad 0)), (1, .int a0), (2, .int a1), (3, .int a2), (4, .ref oa)] := hl
  show W p l e rmL_setHolds s m _ below meth c s.heap [] 0 0 _ _
  refine lv_aload hx hb dL_setHolds_0 (lv_at hl 4 rfl) ?_
  refine lv_iconst (v := 0) hx hb dL_setHolds_2 (by decide) ?_
  refine lv_aload_n hx hb dL_setHolds_3 rfl (lv_at hl 0 rfl) ?_
  refine lv_iload_n hx hb dL_setHolds_4 rfl (lv_at hl 1 rfl) ?_
  refine lv_iload_n hx hb dL_setHolds_5 rfl (lv_at hl 2 rfl) ?_
  refine lv_iload_n hx hb dL_setHolds_6 rfl (lv_at hl 3 rfl) ?_
  refine gk_callTi ⟨hx, hb, hml, hown, hts⟩ (c_X8_setHolds l hfl D cI cZ cG cL ad q1 q2 q3 hw) (cwV 3 hts (gk_gV ml_L_31 im_X8_setHolds se_X8_setHolds in_X8 co_X8_setHolds) rfl rfl rfl (by decide +kernel) ⟨Nat.le_of_ble_eq_true rfl, Nat.le_of_ble_eq_true rfl⟩) (gk_recv hK.1 (gk_o0 hW) rfl) hW hK hY hS (fun q h => Or.inr h) rfl hl.1 (rest := [.int 0, .ref oa]) rfl (lv_room (Nat.le_of_ble_eq_true rfl)) dL_setHolds_7 ⟨Nat.le_of_ble_eq_true rfl, Nat.le_of_ble_eq_true rfl⟩ (fun E ce q9 u H locs hT hW hk hS hc1 hc2 hc3 => ?_) (fun r u H locs hw hW hk hS => ?_)
  · have hO := hO.kept (hk _ hoa (fun h => h.elim (fun ⟨k, h1, h2⟩ => hne k h1 h2) (fun h => absurd hoa (Nat.not_lt.mpr h))))
    rcases hT with ⟨rfl, hw⟩ | ⟨rfl, hw⟩ | ⟨rfl, hw⟩
    · refine vx_catch hown [] ⟨0, 19, 22, 25⟩ [⟨0, 19, 26, 13⟩, ⟨0, 19, 30, 15⟩] (by rw [htab]; rfl) (fun z hz => nomatch hz) (by decide) (by decide) (hts _ cl_L_25) (va_Nw.use rfl (hY.2.1 _ (by decide))) hc1 hc2 hc3 ?_
      refine lv_astore (lv' := [(5, .ref q9), (0, .ref (ad 0)), (1, .int a0), (2, .int a1), (3, .int a2), (4, .ref oa)]) hx hb dL_setHolds_22 hl (by decide) rfl (fun ls hl => ?_)
      refine lv_iconst (v := 1) hx hb dL_setHolds_24 (by decide) ?_
      refine vx_ret ?_
      exact gk_rethl C0 (u := (_, _)) hw hW hO hS dL_setHolds_25
    · have hp : ∀ z ∈ ([⟨0, 19, 22, 25⟩] : List ExceptionTableEntry), covers z 7 = false ∨ (z.catchType ≠ 0 ∧ ∃ nm : String, (Cond.classLink RL z.catchType nm).before ([.ref (ad 0), .int a0, .int a1, .int a2, .ref oa] : List Value).toArray s = true ∧ va_Nc gk_E2 nm s) := by
        intro z hz
        simp only [List.mem_cons, List.not_mem_nil, or_false] at hz
        subst hz
        exact Or.inr ⟨by decide, gk_E1, hts _ cl_L_25, hN.2.2.1⟩
      refine vx_catch hown [⟨0, 19, 22, 25⟩] ⟨0, 19, 26, 13⟩ [⟨0, 19, 30, 15⟩] (by rw [htab]; rfl) hp (by decide) (by decide) (hts _ cl_L_13) (va_Nw.use rfl (hY.2.1 _ (by decide))) hc1 hc2 hc3 ?_
      refine lv_astore (lv' := [(5, .ref q9), (0, .ref (ad 0)), (1, .int a0), (2, .int a1), (3, .int a2), (4, .ref oa)]) hx hb dL_setHolds_26 hl (by decide) rfl (fun ls hl => ?_)
      refine lv_iconst (v := 2) hx hb dL_setHolds_28 (by decide) ?_
      refine vx_ret ?_
      exact gk_rethl C0 (u := (_, _)) hw hW hO hS dL_setHolds_29
    · have hp : ∀ z ∈ ([⟨0, 19, 22, 25⟩, ⟨0, 19, 26, 13⟩] : List ExceptionTableEntry), covers z 7 = false ∨ (z.catchType ≠ 0 ∧ ∃ nm : String, (Cond.classLink RL z.catchType nm).before ([.ref (ad 0), .int a0, .int a1, .int a2, .ref oa] : List Value).toArray s = true ∧ va_Nc gk_E3 nm s) := by
        intro z hz
        simp only [List.mem_cons, List.not_mem_nil, or_false] at hz
        rcases hz with rfl | rfl
        · exact Or.inr ⟨by decide, gk_E1, hts _ cl_L_25, hN.2.2.2.2.1⟩
        · exact Or.inr ⟨by decide, gk_E2, hts _ cl_L_13, hN.2.2.2.2.2⟩
      refine vx_catch hown [⟨0, 19, 22, 25⟩, ⟨0, 19, 26, 13⟩] ⟨0, 19, 30, 15⟩ [] (by rw [htab]; rfl) hp (by decide) (by decide) (hts _ cl_L_15) (va_Nw.use rfl (hY.2.1 _ (by decide))) hc1 hc2 hc3 ?_
      refine lv_astore (lv' := [(5, .ref q9), (0, .ref (ad 0)), (1, .int a0), (2, .int a1), (3, .int a2), (4, .ref oa)]) hx hb dL_setHolds_30 hl (by decide) rfl (fun ls hl => ?_)
      refine lv_iconst (v := 3) hx hb dL_setHolds_32 (by decide) ?_
      refine vx_ret ?_
      exact gk_rethl C0 (u := (_, _)) hw hW hO hS dL_setHolds_33
  · have hO := hO.kept (hk _ hoa (fun h => h.elim (fun ⟨k, h1, h2⟩ => hne k h1 h2) (fun h => absurd hoa (Nat.not_lt.mpr h))))
    refine lv_if_eq (tgt := 17) hx hb dL_setHolds_10 (by decide) (fun c0 => ?_) (fun c0 => ?_)
    · have hw := hw.2 c0
      refine lv_lconst (v := 0) hx hb dL_setHolds_17 (by decide) ?_
      refine gk_last hx hb hK hS (Or.inl rfl) hO dL_setHolds_18 (fun H locs hO z1 oq hS => ?_)
      have hW := hW.kept (fun k hk9 => oq _ (fun e => hne k hk9 e.symm))
      refine lv_goto (tgt := 34) hx hb dL_setHolds_19 (by decide) ?_
      refine lv_iconst (v := 0) hx hb dL_setHolds_34 (by decide) ?_
      refine vx_ret ?_
      exact gk_rethl C0 (u := (_, _)) hw hW hO hS dL_setHolds_35
    · have hw := hw.1 c0
      refine lv_lconst (v := 1) hx hb dL_setHolds_13 (by decide) ?_
      refine lv_goto (tgt := 18) hx hb dL_setHolds_14 (by decide) ?_
      refine gk_last hx hb hK hS (Or.inl rfl) hO dL_setHolds_18 (fun H locs hO z1 oq hS => ?_)
      have hW := hW.kept (fun k hk9 => oq _ (fun e => hne k hk9 e.symm))
      refine lv_goto (tgt := 34) hx hb dL_setHolds_19 (by decide) ?_
      refine lv_iconst (v := 0) hx hb dL_setHolds_34 (by decide) ?_
      refine vx_ret ?_
      exact gk_rethl C0 (u := (_, _)) hw hW hO hS dL_setHolds_35
def w_L_setApart (σ : gk_C) (o : Int64) (a0 : Int32) (a1 : Int32) (Q : Int32 → gk_C → Int64 → Prop) : Prop := w_X8_setApart σ a0 a1 (fun E u => (E = gk_E1 ∧ Q 1 u o) ∨ (E = gk_E2 ∧ Q 2 u o) ∨ (E = gk_E3 ∧ Q 3 u o)) (fun r u => Q 0 u r.toInt64)
abbrev rmL_setApart : Room := { frames := 8, cells := 3, slots := 18, locals := 124 }
set_option maxHeartbeats 4000000 in
set_option maxRecDepth 100000 in
theorem c_L_setApart (l : Launch) (hfl : l.stackTraces = false) (D : va_G) (cI cZ cG cL : ClassId) (ad : Nat → Nat) (q1 q2 q3 oa : Nat) {σ : gk_C} {o : Int64} {a0 : Int32} {a1 : Int32} {Q : Int32 → gk_C → Int64 → Prop} {sz : Nat} (hw : w_L_setApart σ o a0 a1 Q) : vx_Met l yL_setApart wsL_setApart rmL_setApart (gk_Pl D cI cZ cG cL ad q1 q2 q3 oa [.ref (ad 0), .int a0, .int a1, .ref oa] sz σ o) (gk_Ql D cI cL ad oa Q sz) gk_XF 3 18 (gk_Al ad oa sz) := by
  refine vx_ofWH (cc := cL_setApart) (maxL := 5) (ret := (some .int)) (by decide) rfl ?_
  intro p e s m args below meth c s₁ B hml0 hv0
  obtain ⟨rfl, hsz, hW, hO, hne, hK, hY, hN⟩ := hv0
  subst hsz
  have C0 : gk_F p s m ([.ref (ad 0), .int a0, .int a1, .ref oa] : List Value).toArray meth c cL_setApart 5 (some .int) RL := ⟨B.exec, B.bytes, hml0, findClass_of_methodNamed B.named, fun w hw => atoms_spec (ws := wsL_setApart) B.pre w (List.mem_cons_of_mem _ hw), B.returns, B.notSynchronized⟩
  obtain ⟨hx, hb, hml, hown, hts, hr, hlocks⟩ := id C0
  have htab := vx_table (x := yL_setApart) B (atoms_spec (ws := wsL_setApart) B.pre _ List.mem_cons_self)
  have hS : va_S (gk_Al ad oa s.heap.size) s.heap s.heap [] := va_S.rf
  have hoa := hO.lt
  have hl := lv_entry ([.ref (ad 0), .int a0, .int a1, .ref oa]) (n := 5) (Nat.le_of_ble_eq_true rfl)
  rw [lg_entry_eq]
  generalize (lg_sl ([.ref (ad 0), .int a0, .int a1, .ref oa]) ++ List.replicate (5 - (lg_sl ([.ref (ad 0), .int a0, .int a1, .ref oa])).length) Slot.unset).toArray = ls at hl ⊢
  have hl : lv_has ls 5 [(0, .ref (ad 0)), (1, .int a0), (2, .int a1), (3, .ref oa)] := hl
  show W p l e rmL_setApart s m _ below meth c s.heap [] 0 0 _ _
  refine lv_aload_n hx hb dL_setApart_0 rfl (lv_at hl 3 rfl) ?_
  refine lv_iconst (v := 0) hx hb dL_setApart_1 (by decide) ?_
  refine lv_aload_n hx hb dL_setApart_2 rfl (lv_at hl 0 rfl) ?_
  refine lv_iload_n hx hb dL_setApart_3 rfl (lv_at hl 1 rfl) ?_
  refine lv_iload_n hx hb dL_setApart_4 rfl (lv_at hl 2 rfl) ?_
  refine gk_callTi ⟨hx, hb, hml, hown, hts⟩ (c_X8_setApart l hfl D cI cZ cG cL ad q1 q2 q3 hw) (cwV 2 hts (gk_gV ml_L_34 im_X8_setApart se_X8_setApart in_X8 co_X8_setApart) rfl rfl rfl (by decide +kernel) ⟨Nat.le_of_ble_eq_true rfl, Nat.le_of_ble_eq_true rfl⟩) (gk_recv hK.1 (gk_o0 hW) rfl) hW hK hY hS (fun q h => Or.inr h) rfl hl.1 (rest := [.int 0, .ref oa]) rfl (lv_room (Nat.le_of_ble_eq_true rfl)) dL_setApart_5 ⟨Nat.le_of_ble_eq_true rfl, Nat.le_of_ble_eq_true rfl⟩ (fun E ce q9 u H locs hT hW hk hS hc1 hc2 hc3 => ?_) (fun r u H locs hw hW hk hS => ?_)
  · have hO := hO.kept (hk _ hoa (fun h => h.elim (fun ⟨k, h1, h2⟩ => hne k h1 h2) (fun h => absurd hoa (Nat.not_lt.mpr h))))
    rcases hT with ⟨rfl, hw⟩ | ⟨rfl, hw⟩ | ⟨rfl, hw⟩
    · refine vx_catch hown [] ⟨0, 10, 13, 25⟩ [⟨0, 10, 17, 13⟩, ⟨0, 10, 21, 15⟩] (by rw [htab]; rfl) (fun z hz => nomatch hz) (by decide) (by decide) (hts _ cl_L_25) (va_Nw.use rfl (hY.2.1 _ (by decide))) hc1 hc2 hc3 ?_
      refine lv_astore (lv' := [(4, .ref q9), (0, .ref (ad 0)), (1, .int a0), (2, .int a1), (3, .ref oa)]) hx hb dL_setApart_13 hl (by decide) rfl (fun ls hl => ?_)
      refine lv_iconst (v := 1) hx hb dL_setApart_15 (by decide) ?_
      refine vx_ret ?_
      exact gk_rethl C0 (u := (_, _)) hw hW hO hS dL_setApart_16
    · have hp : ∀ z ∈ ([⟨0, 10, 13, 25⟩] : List ExceptionTableEntry), covers z 5 = false ∨ (z.catchType ≠ 0 ∧ ∃ nm : String, (Cond.classLink RL z.catchType nm).before ([.ref (ad 0), .int a0, .int a1, .ref oa] : List Value).toArray s = true ∧ va_Nc gk_E2 nm s) := by
        intro z hz
        simp only [List.mem_cons, List.not_mem_nil, or_false] at hz
        subst hz
        exact Or.inr ⟨by decide, gk_E1, hts _ cl_L_25, hN.2.2.1⟩
      refine vx_catch hown [⟨0, 10, 13, 25⟩] ⟨0, 10, 17, 13⟩ [⟨0, 10, 21, 15⟩] (by rw [htab]; rfl) hp (by decide) (by decide) (hts _ cl_L_13) (va_Nw.use rfl (hY.2.1 _ (by decide))) hc1 hc2 hc3 ?_
      refine lv_astore (lv' := [(4, .ref q9), (0, .ref (ad 0)), (1, .int a0), (2, .int a1), (3, .ref oa)]) hx hb dL_setApart_17 hl (by decide) rfl (fun ls hl => ?_)
      refine lv_iconst (v := 2) hx hb dL_setApart_19 (by decide) ?_
      refine vx_ret ?_
      exact gk_rethl C0 (u := (_, _)) hw hW hO hS dL_setApart_20
    · have hp : ∀ z ∈ ([⟨0, 10, 13, 25⟩, ⟨0, 10, 17, 13⟩] : List ExceptionTableEntry), covers z 5 = false ∨ (z.catchType ≠ 0 ∧ ∃ nm : String, (Cond.classLink RL z.catchType nm).before ([.ref (ad 0), .int a0, .int a1, .ref oa] : List Value).toArray s = true ∧ va_Nc gk_E3 nm s) := by
        intro z hz
        simp only [List.mem_cons, List.not_mem_nil, or_false] at hz
        rcases hz with rfl | rfl
        · exact Or.inr ⟨by decide, gk_E1, hts _ cl_L_25, hN.2.2.2.2.1⟩
        · exact Or.inr ⟨by decide, gk_E2, hts _ cl_L_13, hN.2.2.2.2.2⟩
      refine vx_catch hown [⟨0, 10, 13, 25⟩, ⟨0, 10, 17, 13⟩] ⟨0, 10, 21, 15⟩ [] (by rw [htab]; rfl) hp (by decide) (by decide) (hts _ cl_L_15) (va_Nw.use rfl (hY.2.1 _ (by decide))) hc1 hc2 hc3 ?_
      refine lv_astore (lv' := [(4, .ref q9), (0, .ref (ad 0)), (1, .int a0), (2, .int a1), (3, .ref oa)]) hx hb dL_setApart_21 hl (by decide) rfl (fun ls hl => ?_)
      refine lv_iconst (v := 3) hx hb dL_setApart_23 (by decide) ?_
      refine vx_ret ?_
      exact gk_rethl C0 (u := (_, _)) hw hW hO hS dL_setApart_24
  · have hO := hO.kept (hk _ hoa (fun h => h.elim (fun ⟨k, h1, h2⟩ => hne k h1 h2) (fun h => absurd hoa (Nat.not_lt.mpr h))))
    refine lv_i2l (v := r.toInt64) hx hb dL_setApart_8 rfl ?_
    refine gk_last hx hb hK hS (Or.inl rfl) hO dL_setApart_9 (fun H locs hO z1 oq hS => ?_)
    have hW := hW.kept (fun k hk9 => oq _ (fun e => hne k hk9 e.symm))
    refine lv_goto (tgt := 25) hx hb dL_setApart_10 (by decide) ?_
    refine lv_iconst (v := 0) hx hb dL_setApart_25 (by decide) ?_
    refine vx_ret ?_
    exact gk_rethl C0 (u := (_, _)) hw hW hO hS dL_setApart_26
def w_L_setUser (σ : gk_C) (o : Int64) (a0 : Int32) (a1 : Int32) (a2 : Int32) (Q : Int32 → gk_C → Int64 → Prop) : Prop := w_X8_setUser σ a0 a1 a2 (fun E u => (E = gk_E1 ∧ Q 1 u o) ∨ (E = gk_E2 ∧ Q 2 u o)) (fun r u => Q 0 u r.toInt64)
abbrev rmL_setUser : Room := { frames := 8, cells := 2, slots := 12, locals := 126 }
set_option maxHeartbeats 4000000 in
set_option maxRecDepth 100000 in
theorem c_L_setUser (l : Launch) (hfl : l.stackTraces = false) (D : va_G) (cI cZ cG cL : ClassId) (ad : Nat → Nat) (q1 q2 q3 oa : Nat) {σ : gk_C} {o : Int64} {a0 : Int32} {a1 : Int32} {a2 : Int32} {Q : Int32 → gk_C → Int64 → Prop} {sz : Nat} (hw : w_L_setUser σ o a0 a1 a2 Q) : vx_Met l yL_setUser wsL_setUser rmL_setUser (gk_Pl D cI cZ cG cL ad q1 q2 q3 oa [.ref (ad 0), .int a0, .int a1, .int a2, .ref oa] sz σ o) (gk_Ql D cI cL ad oa Q sz) gk_XF 2 12 (gk_Al ad oa sz) := by
  refine vx_ofWH (cc := cL_setUser) (maxL := 6) (ret := (some .int)) (by decide) rfl ?_
  intro p e s m args below meth c s₁ B hml0 hv0
  obtain ⟨rfl, hsz, hW, hO, hne, hK, hY, hN⟩ := hv0
  subst hsz
  have C0 : gk_F p s m ([.ref (ad 0), .int a0, .int a1, .int a2, .ref oa] : List Value).toArray meth c cL_setUser 6 (some .int) RL := ⟨B.exec, B.bytes, hml0, findClass_of_methodNamed B.named, fun w hw => atoms_spec (ws := wsL_setUser) B.pre w (List.mem_cons_of_mem _ hw), B.returns, B.notSynchronized⟩
  obtain ⟨hx, hb, hml, hown, hts, hr, hlocks⟩ := id C0
  have htab := vx_table (x := yL_setUser) B (atoms_spec (ws := wsL_setUser) B.pre _ List.mem_cons_self)
  have hS : va_S (gk_Al ad oa s.heap.size) s.heap s.heap [] := va_S.rf
  have hoa := hO.lt
  have hl := lv_entry ([.ref (ad 0), .int a0, .int a1, .int a2, .ref oa]) (n := 6) (Nat.le_of_ble_eq_true rfl)
  rw [lg_entry_eq]
  generalize (lg_sl ([.ref (ad 0), .int a0, .int a1, .int a2, .ref oa]) ++ List.replicate (6 - (lg_sl ([.ref (ad 0), .int a0, .int a1, .int a2, .ref oa])).length) Slot.unset).toArray = ls at hl ⊢
  have hl : lv_has ls 6 [(0, .ref (ad 0)), (1, .int a0), (2, .int a1), (3, .int a2), (4, .ref oa)] := hl
  show W p l e rmL_setUser s m _ below meth c s.heap [] 0 0 _ _
  refine lv_aload hx hb dL_setUser_0 (lv_at hl 4 rfl) ?_
  refine lv_iconst (v := 0) hx hb dL_setUser_2 (by decide) ?_
  refine lv_aload_n hx hb dL_setUser_3 rfl (lv_at hl 0 rfl) ?_
  refine lv_iload_n hx hb dL_setUser_4 rfl (lv_at hl 1 rfl) ?_
  refine lv_iload_n hx hb dL_setUser_5 rfl (lv_at hl 2 rfl) ?_
  refine lv_iload_n hx hb dL_setUser_6 rfl (lv_at hl 3 rfl) ?_
  refine gk_callTi ⟨hx, hb, hml, hown, hts⟩ (c_X8_setUser l hfl D cI cZ cG cL ad q1 q2 q3 hw) (cwV 3 hts (gk_gV ml_L_37 im_X8_setUser se_X8_setUser in_X8 co_X8_setUser) rfl rfl rfl (by decide +kernel) ⟨Nat.le_of_ble_eq_true rfl, Nat.le_of_ble_eq_true rfl⟩) (gk_recv hK.1 (gk_o0 hW) rfl) hW hK hY hS (fun q h => Or.inr h) rfl hl.1 (rest := [.int 0, .ref oa]) rfl (lv_room (Nat.le_of_ble_eq_true rfl)) dL_setUser_7 ⟨Nat.le_of_ble_eq_true rfl, Nat.le_of_ble_eq_true rfl⟩ (fun E ce q9 u H locs hT hW hk hS hc1 hc2 hc3 => ?_) (fun r u H locs hw hW hk hS => ?_)
  · have hO := hO.kept (hk _ hoa (fun h => h.elim (fun ⟨k, h1, h2⟩ => hne k h1 h2) (fun h => absurd hoa (Nat.not_lt.mpr h))))
    rcases hT with ⟨rfl, hw⟩ | ⟨rfl, hw⟩
    · refine vx_catch hown [] ⟨0, 12, 15, 25⟩ [⟨0, 12, 19, 13⟩] (by rw [htab]; rfl) (fun z hz => nomatch hz) (by decide) (by decide) (hts _ cl_L_25) (va_Nw.use rfl (hY.2.1 _ (by decide))) hc1 hc2 hc3 ?_
      refine lv_astore (lv' := [(5, .ref q9), (0, .ref (ad 0)), (1, .int a0), (2, .int a1), (3, .int a2), (4, .ref oa)]) hx hb dL_setUser_15 hl (by decide) rfl (fun ls hl => ?_)
      refine lv_iconst (v := 1) hx hb dL_setUser_17 (by decide) ?_
      refine vx_ret ?_
      exact gk_rethl C0 (u := (_, _)) hw hW hO hS dL_setUser_18
    · have hp : ∀ z ∈ ([⟨0, 12, 15, 25⟩] : List ExceptionTableEntry), covers z 7 = false ∨ (z.catchType ≠ 0 ∧ ∃ nm : String, (Cond.classLink RL z.catchType nm).before ([.ref (ad 0), .int a0, .int a1, .int a2, .ref oa] : List Value).toArray s = true ∧ va_Nc gk_E2 nm s) := by
        intro z hz
        simp only [List.mem_cons, List.not_mem_nil, or_false] at hz
        subst hz
        exact Or.inr ⟨by decide, gk_E1, hts _ cl_L_25, hN.2.2.1⟩
      refine vx_catch hown [⟨0, 12, 15, 25⟩] ⟨0, 12, 19, 13⟩ [] (by rw [htab]; rfl) hp (by decide) (by decide) (hts _ cl_L_13) (va_Nw.use rfl (hY.2.1 _ (by decide))) hc1 hc2 hc3 ?_
      refine lv_astore (lv' := [(5, .ref q9), (0, .ref (ad 0)), (1, .int a0), (2, .int a1), (3, .int a2), (4, .ref oa)]) hx hb dL_setUser_19 hl (by decide) rfl (fun ls hl => ?_)
      refine lv_iconst (v := 2) hx hb dL_setUser_21 (by decide) ?_
      refine vx_ret ?_
      exact gk_rethl C0 (u := (_, _)) hw hW hO hS dL_setUser_22
  · have hO := hO.kept (hk _ hoa (fun h => h.elim (fun ⟨k, h1, h2⟩ => hne k h1 h2) (fun h => absurd hoa (Nat.not_lt.mpr h))))
    refine lv_i2l (v := r.toInt64) hx hb dL_setUser_10 rfl ?_
    refine gk_last hx hb hK hS (Or.inl rfl) hO dL_setUser_11 (fun H locs hO z1 oq hS => ?_)
    have hW := hW.kept (fun k hk9 => oq _ (fun e => hne k hk9 e.symm))
    refine lv_goto (tgt := 23) hx hb dL_setUser_12 (by decide) ?_
    refine lv_iconst (v := 0) hx hb dL_setUser_23 (by decide) ?_
    refine vx_ret ?_
    exact gk_rethl C0 (u := (_, _)) hw hW hO hS dL_setUser_24
def w_L_setLabel (σ : gk_C) (o : Int64) (a0 : Int32) (a1 : Int32) (Q : Int32 → gk_C → Int64 → Prop) : Prop := w_X8_setLabel σ a0 a1 (fun E u => (E = gk_E1 ∧ Q 1 u o) ∨ (E = gk_E2 ∧ Q 2 u o)) (fun r u => Q 0 u r.toInt64)
abbrev rmL_setLabel : Room := { frames := 8, cells := 2, slots := 12, locals := 125 }
set_option maxHeartbeats 4000000 in
set_option maxRecDepth 100000 in
theorem c_L_setLabel (l : Launch) (hfl : l.stackTraces = false) (D : va_G) (cI cZ cG cL : ClassId) (ad : Nat → Nat) (q1 q2 q3 oa : Nat) {σ : gk_C} {o : Int64} {a0 : Int32} {a1 : Int32} {Q : Int32 → gk_C → Int64 → Prop} {sz : Nat} (hw : w_L_setLabel σ o a0 a1 Q) : vx_Met l yL_setLabel wsL_setLabel rmL_setLabel (gk_Pl D cI cZ cG cL ad q1 q2 q3 oa [.ref (ad 0), .int a0, .int a1, .ref oa] sz σ o) (gk_Ql D cI cL ad oa Q sz) gk_XF 2 12 (gk_Al ad oa sz) := by
  refine vx_ofWH (cc := cL_setLabel) (maxL := 5) (ret := (some .int)) (by decide) rfl ?_
  intro p e s m args below meth c s₁ B hml0 hv0
  obtain ⟨rfl, hsz, hW, hO, hne, hK, hY, hN⟩ := hv0
  subst hsz
  have C0 : gk_F p s m ([.ref (ad 0), .int a0, .int a1, .ref oa] : List Value).toArray meth c cL_setLabel 5 (some .int) RL := ⟨B.exec, B.bytes, hml0, findClass_of_methodNamed B.named, fun w hw => atoms_spec (ws := wsL_setLabel) B.pre w (List.mem_cons_of_mem _ hw), B.returns, B.notSynchronized⟩
  obtain ⟨hx, hb, hml, hown, hts, hr, hlocks⟩ := id C0
  have htab := vx_table (x := yL_setLabel) B (atoms_spec (ws := wsL_setLabel) B.pre _ List.mem_cons_self)
  have hS : va_S (gk_Al ad oa s.heap.size) s.heap s.heap [] := va_S.rf
  have hoa := hO.lt
  have hl := lv_entry ([.ref (ad 0), .int a0, .int a1, .ref oa]) (n := 5) (Nat.le_of_ble_eq_true rfl)
  rw [lg_entry_eq]
  generalize (lg_sl ([.ref (ad 0), .int a0, .int a1, .ref oa]) ++ List.replicate (5 - (lg_sl ([.ref (ad 0), .int a0, .int a1, .ref oa])).length) Slot.unset).toArray = ls at hl ⊢
  have hl : lv_has ls 5 [(0, .ref (ad 0)), (1, .int a0), (2, .int a1), (3, .ref oa)] := hl
  show W p l e rmL_setLabel s m _ below meth c s.heap [] 0 0 _ _
  refine lv_aload_n hx hb dL_setLabel_0 rfl (lv_at hl 3 rfl) ?_
  refine lv_iconst (v := 0) hx hb dL_setLabel_1 (by decide) ?_
  refine lv_aload_n hx hb dL_setLabel_2 rfl (lv_at hl 0 rfl) ?_
  refine lv_iload_n hx hb dL_setLabel_3 rfl (lv_at hl 1 rfl) ?_
  refine lv_iload_n hx hb dL_setLabel_4 rfl (lv_at hl 2 rfl) ?_
  refine gk_callTi ⟨hx, hb, hml, hown, hts⟩ (c_X8_setLabel l hfl D cI cZ cG cL ad q1 q2 q3 hw) (cwV 2 hts (gk_gV ml_L_41 im_X8_setLabel se_X8_setLabel in_X8 co_X8_setLabel) rfl rfl rfl (by decide +kernel) ⟨Nat.le_of_ble_eq_true rfl, Nat.le_of_ble_eq_true rfl⟩) (gk_recv hK.1 (gk_o0 hW) rfl) hW hK hY hS (fun q h => Or.inr h) rfl hl.1 (rest := [.int 0, .ref oa]) rfl (lv_room (Nat.le_of_ble_eq_true rfl)) dL_setLabel_5 ⟨Nat.le_of_ble_eq_true rfl, Nat.le_of_ble_eq_true rfl⟩ (fun E ce q9 u H locs hT hW hk hS hc1 hc2 hc3 => ?_) (fun r u H locs hw hW hk hS => ?_)
  · have hO := hO.kept (hk _ hoa (fun h => h.elim (fun ⟨k, h1, h2⟩ => hne k h1 h2) (fun h => absurd hoa (Nat.not_lt.mpr h))))
    rcases hT with ⟨rfl, hw⟩ | ⟨rfl, hw⟩
    · refine vx_catch hown [] ⟨0, 10, 13, 25⟩ [⟨0, 10, 17, 13⟩] (by rw [htab]; rfl) (fun z hz => nomatch hz) (by decide) (by decide) (hts _ cl_L_25) (va_Nw.use rfl (hY.2.1 _ (by decide))) hc1 hc2 hc3 ?_
      refine lv_astore (lv' := [(4, .ref q9), (0, .ref (ad 0)), (1, .int a0), (2, .int a1), (3, .ref oa)]) hx hb dL_setLabel_13 hl (by decide) rfl (fun ls hl => ?_)
      refine lv_iconst (v := 1) hx hb dL_setLabel_15 (by decide) ?_
      refine vx_ret ?_
      exact gk_rethl C0 (u := (_, _)) hw hW hO hS dL_setLabel_16
    · have hp : ∀ z ∈ ([⟨0, 10, 13, 25⟩] : List ExceptionTableEntry), covers z 5 = false ∨ (z.catchType ≠ 0 ∧ ∃ nm : String, (Cond.classLink RL z.catchType nm).before ([.ref (ad 0), .int a0, .int a1, .ref oa] : List Value).toArray s = true ∧ va_Nc gk_E2 nm s) := by
        intro z hz
        simp only [List.mem_cons, List.not_mem_nil, or_false] at hz
        subst hz
        exact Or.inr ⟨by decide, gk_E1, hts _ cl_L_25, hN.2.2.1⟩
      refine vx_catch hown [⟨0, 10, 13, 25⟩] ⟨0, 10, 17, 13⟩ [] (by rw [htab]; rfl) hp (by decide) (by decide) (hts _ cl_L_13) (va_Nw.use rfl (hY.2.1 _ (by decide))) hc1 hc2 hc3 ?_
      refine lv_astore (lv' := [(4, .ref q9), (0, .ref (ad 0)), (1, .int a0), (2, .int a1), (3, .ref oa)]) hx hb dL_setLabel_17 hl (by decide) rfl (fun ls hl => ?_)
      refine lv_iconst (v := 2) hx hb dL_setLabel_19 (by decide) ?_
      refine vx_ret ?_
      exact gk_rethl C0 (u := (_, _)) hw hW hO hS dL_setLabel_20
  · have hO := hO.kept (hk _ hoa (fun h => h.elim (fun ⟨k, h1, h2⟩ => hne k h1 h2) (fun h => absurd hoa (Nat.not_lt.mpr h))))
    refine lv_i2l (v := r.toInt64) hx hb dL_setLabel_8 rfl ?_
    refine gk_last hx hb hK hS (Or.inl rfl) hO dL_setLabel_9 (fun H locs hO z1 oq hS => ?_)
    have hW := hW.kept (fun k hk9 => oq _ (fun e => hne k hk9 e.symm))
    refine lv_goto (tgt := 21) hx hb dL_setLabel_10 (by decide) ?_
    refine lv_iconst (v := 0) hx hb dL_setLabel_21 (by decide) ?_
    refine vx_ret ?_
    exact gk_rethl C0 (u := (_, _)) hw hW hO hS dL_setLabel_22
def w_L_setWall (σ : gk_C) (o : Int64) (a0 : Int32) (a1 : Int32) (a2 : Int32) (Q : Int32 → gk_C → Int64 → Prop) : Prop := w_X8_setWall σ a0 a1 a2 (fun E u => (E = gk_E1 ∧ Q 1 u o) ∨ (E = gk_E2 ∧ Q 2 u o)) (fun r u => (¬ r = 0 → Q 0 u 1) ∧ (r = 0 → Q 0 u 0))
abbrev rmL_setWall : Room := { frames := 8, cells := 2, slots := 12, locals := 126 }
set_option maxHeartbeats 4000000 in
set_option maxRecDepth 100000 in
theorem c_L_setWall (l : Launch) (hfl : l.stackTraces = false) (D : va_G) (cI cZ cG cL : ClassId) (ad : Nat → Nat) (q1 q2 q3 oa : Nat) {σ : gk_C} {o : Int64} {a0 : Int32} {a1 : Int32} {a2 : Int32} {Q : Int32 → gk_C → Int64 → Prop} {sz : Nat} (hw : w_L_setWall σ o a0 a1 a2 Q) : vx_Met l yL_setWall wsL_setWall rmL_setWall (gk_Pl D cI cZ cG cL ad q1 q2 q3 oa [.ref (ad 0), .int a0, .int a1, .int a2, .ref oa] sz σ o) (gk_Ql D cI cL ad oa Q sz) gk_XF 2 12 (gk_Al ad oa sz) := by
  refine vx_ofWH (cc := cL_setWall) (maxL := 6) (ret := (some .int)) (by decide) rfl ?_
  intro p e s m args below meth c s₁ B hml0 hv0
  obtain ⟨rfl, hsz, hW, hO, hne, hK, hY, hN⟩ := hv0
  subst hsz
  have C0 : gk_F p s m ([.ref (ad 0), .int a0, .int a1, .int a2, .ref oa] : List Value).toArray meth c cL_setWall 6 (some .int) RL := ⟨B.exec, B.bytes, hml0, findClass_of_methodNamed B.named, fun w hw => atoms_spec (ws := wsL_setWall) B.pre w (List.mem_cons_of_mem _ hw), B.returns, B.notSynchronized⟩
  obtain ⟨hx, hb, hml, hown, hts, hr, hlocks⟩ := id C0
  have htab := vx_table (x := yL_setWall) B (atoms_spec (ws := wsL_setWall) B.pre _ List.mem_cons_self)
  have hS : va_S (gk_Al ad oa s.heap.size) s.heap s.heap [] := va_S.rf
  have hoa := hO.lt
  have hl := lv_entry ([.ref (ad 0), .int a0, .int a1, .int a2, .ref oa]) (n := 6) (Nat.le_of_ble_eq_true rfl)
  rw [lg_entry_eq]
  generalize (lg_sl ([.ref (ad 0), .int a0, .int a1, .int a2, .ref oa]) ++ List.replicate (6 - (lg_sl ([.ref (ad 0), .int a0, .int a1, .int a2, .ref oa])).length) Slot.unset).toArray = ls at hl ⊢
  have hl : lv_has ls 6 [(0, .ref (ad 0)), (1, .int a0), (2, .int a1), (3, .int a2), (4, .ref oa)] := hl
  show W p l e rmL_setWall s m _ below meth c s.heap [] 0 0 _ _
  refine lv_aload hx hb dL_setWall_0 (lv_at hl 4 rfl) ?_
  refine lv_iconst (v := 0) hx hb dL_setWall_2 (by decide) ?_
  refine lv_aload_n hx hb dL_setWall_3 rfl (lv_at hl 0 rfl) ?_
  refine lv_iload_n hx hb dL_setWall_4 rfl (lv_at hl 1 rfl) ?_
  refine lv_iload_n hx hb dL_setWall_5 rfl (lv_at hl 2 rfl) ?_
  refine lv_iload_n hx hb dL_setWall_6 rfl (lv_at hl 3 rfl) ?_
  refine gk_callTi ⟨hx, hb, hml, hown, hts⟩ (c_X8_setWall l hfl D cI cZ cG cL ad q1 q2 q3 hw) (cwV 3 hts (gk_gV ml_L_44 im_X8_setWall se_X8_setWall in_X8 co_X8_setWall) rfl rfl rfl (by decide +kernel) ⟨Nat.le_of_ble_eq_true rfl, Nat.le_of_ble_eq_true rfl⟩) (gk_recv hK.1 (gk_o0 hW) rfl) hW hK hY hS (fun q h => Or.inr h) rfl hl.1 (rest := [.int 0, .ref oa]) rfl (lv_room (Nat.le_of_ble_eq_true rfl)) dL_setWall_7 ⟨Nat.le_of_ble_eq_true rfl, Nat.le_of_ble_eq_true rfl⟩ (fun E ce q9 u H locs hT hW hk hS hc1 hc2 hc3 => ?_) (fun r u H locs hw hW hk hS => ?_)
  · have hO := hO.kept (hk _ hoa (fun h => h.elim (fun ⟨k, h1, h2⟩ => hne k h1 h2) (fun h => absurd hoa (Nat.not_lt.mpr h))))
    rcases hT with ⟨rfl, hw⟩ | ⟨rfl, hw⟩
    · refine vx_catch hown [] ⟨0, 19, 22, 25⟩ [⟨0, 19, 26, 13⟩] (by rw [htab]; rfl) (fun z hz => nomatch hz) (by decide) (by decide) (hts _ cl_L_25) (va_Nw.use rfl (hY.2.1 _ (by decide))) hc1 hc2 hc3 ?_
      refine lv_astore (lv' := [(5, .ref q9), (0, .ref (ad 0)), (1, .int a0), (2, .int a1), (3, .int a2), (4, .ref oa)]) hx hb dL_setWall_22 hl (by decide) rfl (fun ls hl => ?_)
      refine lv_iconst (v := 1) hx hb dL_setWall_24 (by decide) ?_
      refine vx_ret ?_
      exact gk_rethl C0 (u := (_, _)) hw hW hO hS dL_setWall_25
    · have hp : ∀ z ∈ ([⟨0, 19, 22, 25⟩] : List ExceptionTableEntry), covers z 7 = false ∨ (z.catchType ≠ 0 ∧ ∃ nm : String, (Cond.classLink RL z.catchType nm).before ([.ref (ad 0), .int a0, .int a1, .int a2, .ref oa] : List Value).toArray s = true ∧ va_Nc gk_E2 nm s) := by
        intro z hz
        simp only [List.mem_cons, List.not_mem_nil, or_false] at hz
        subst hz
        exact Or.inr ⟨by decide, gk_E1, hts _ cl_L_25, hN.2.2.1⟩
      refine vx_catch hown [⟨0, 19, 22, 25⟩] ⟨0, 19, 26, 13⟩ [] (by rw [htab]; rfl) hp (by decide) (by decide) (hts _ cl_L_13) (va_Nw.use rfl (hY.2.1 _ (by decide))) hc1 hc2 hc3 ?_
      refine lv_astore (lv' := [(5, .ref q9), (0, .ref (ad 0)), (1, .int a0), (2, .int a1), (3, .int a2), (4, .ref oa)]) hx hb dL_setWall_26 hl (by decide) rfl (fun ls hl => ?_)
      refine lv_iconst (v := 2) hx hb dL_setWall_28 (by decide) ?_
      refine vx_ret ?_
      exact gk_rethl C0 (u := (_, _)) hw hW hO hS dL_setWall_29
  · have hO := hO.kept (hk _ hoa (fun h => h.elim (fun ⟨k, h1, h2⟩ => hne k h1 h2) (fun h => absurd hoa (Nat.not_lt.mpr h))))
    refine lv_if_eq (tgt := 17) hx hb dL_setWall_10 (by decide) (fun c0 => ?_) (fun c0 => ?_)
    · have hw := hw.2 c0
      refine lv_lconst (v := 0) hx hb dL_setWall_17 (by decide) ?_
      refine gk_last hx hb hK hS (Or.inl rfl) hO dL_setWall_18 (fun H locs hO z1 oq hS => ?_)
      have hW := hW.kept (fun k hk9 => oq _ (fun e => hne k hk9 e.symm))
      refine lv_goto (tgt := 30) hx hb dL_setWall_19 (by decide) ?_
      refine lv_iconst (v := 0) hx hb dL_setWall_30 (by decide) ?_
      refine vx_ret ?_
      exact gk_rethl C0 (u := (_, _)) hw hW hO hS dL_setWall_31
    · have hw := hw.1 c0
      refine lv_lconst (v := 1) hx hb dL_setWall_13 (by decide) ?_
      refine lv_goto (tgt := 18) hx hb dL_setWall_14 (by decide) ?_
      refine gk_last hx hb hK hS (Or.inl rfl) hO dL_setWall_18 (fun H locs hO z1 oq hS => ?_)
      have hW := hW.kept (fun k hk9 => oq _ (fun e => hne k hk9 e.symm))
      refine lv_goto (tgt := 30) hx hb dL_setWall_19 (by decide) ?_
      refine lv_iconst (v := 0) hx hb dL_setWall_30 (by decide) ?_
      refine vx_ret ?_
      exact gk_rethl C0 (u := (_, _)) hw hW hO hS dL_setWall_31
def w_L_near (σ : gk_C) (o : Int64) (a0 : Int32) (a1 : Int32) (Q : Int32 → gk_C → Int64 → Prop) : Prop := w_X8_near σ a0 a1 (fun E u => (E = gk_E1 ∧ Q 1 u o)) (fun r u => Q 0 u r.toInt64)
abbrev rmL_near : Room := { frames := 8, cells := 1, slots := 6, locals := 124 }
set_option maxHeartbeats 4000000 in
set_option maxRecDepth 100000 in
theorem c_L_near (l : Launch) (hfl : l.stackTraces = false) (D : va_G) (cI cZ cG cL : ClassId) (ad : Nat → Nat) (q1 q2 q3 oa : Nat) {σ : gk_C} {o : Int64} {a0 : Int32} {a1 : Int32} {Q : Int32 → gk_C → Int64 → Prop} {sz : Nat} (hw : w_L_near σ o a0 a1 Q) : vx_Met l yL_near wsL_near rmL_near (gk_Pl D cI cZ cG cL ad q1 q2 q3 oa [.ref (ad 0), .int a0, .int a1, .ref oa] sz σ o) (gk_Ql D cI cL ad oa Q sz) gk_XF 1 6 (gk_Al ad oa sz) := by
  refine vx_ofWH (cc := cL_near) (maxL := 5) (ret := (some .int)) (by decide) rfl ?_
  intro p e s m args below meth c s₁ B hml0 hv0
  obtain ⟨rfl, hsz, hW, hO, hne, hK, hY, hN⟩ := hv0
  subst hsz
  have C0 : gk_F p s m ([.ref (ad 0), .int a0, .int a1, .ref oa] : List Value).toArray meth c cL_near 5 (some .int) RL := ⟨B.exec, B.bytes, hml0, findClass_of_methodNamed B.named, fun w hw => atoms_spec (ws := wsL_near) B.pre w (List.mem_cons_of_mem _ hw), B.returns, B.notSynchronized⟩
  obtain ⟨hx, hb, hml, hown, hts, hr, hlocks⟩ := id C0
  have htab := vx_table (x := yL_near) B (atoms_spec (ws := wsL_near) B.pre _ List.mem_cons_self)
  have hS : va_S (gk_Al ad oa s.heap.size) s.heap s.heap [] := va_S.rf
  have hoa := hO.lt
  have hl := lv_entry ([.ref (ad 0), .int a0, .int a1, .ref oa]) (n := 5) (Nat.le_of_ble_eq_true rfl)
  rw [lg_entry_eq]
  generalize (lg_sl ([.ref (ad 0), .int a0, .int a1, .ref oa]) ++ List.replicate (5 - (lg_sl ([.ref (ad 0), .int a0, .int a1, .ref oa])).length) Slot.unset).toArray = ls at hl ⊢
  have hl : lv_has ls 5 [(0, .ref (ad 0)), (1, .int a0), (2, .int a1), (3, .ref oa)] := hl
  show W p l e rmL_near s m _ below meth c s.heap [] 0 0 _ _
  refine lv_aload_n hx hb dL_near_0 rfl (lv_at hl 3 rfl) ?_
  refine lv_iconst (v := 0) hx hb dL_near_1 (by decide) ?_
  refine lv_aload_n hx hb dL_near_2 rfl (lv_at hl 0 rfl) ?_
  refine lv_iload_n hx hb dL_near_3 rfl (lv_at hl 1 rfl) ?_
  refine lv_iload_n hx hb dL_near_4 rfl (lv_at hl 2 rfl) ?_
  refine gk_callTi ⟨hx, hb, hml, hown, hts⟩ (c_X8_near l hfl D cI cZ cG cL ad q1 q2 q3 hw) (cwV 2 hts (gk_gV ml_L_48 im_X8_near se_X8_near in_X8 co_X8_near) rfl rfl rfl (by decide +kernel) ⟨Nat.le_of_ble_eq_true rfl, Nat.le_of_ble_eq_true rfl⟩) (gk_recv hK.1 (gk_o0 hW) rfl) hW hK hY hS (fun q h => Or.inr h) rfl hl.1 (rest := [.int 0, .ref oa]) rfl (lv_room (Nat.le_of_ble_eq_true rfl)) dL_near_5 ⟨Nat.le_of_ble_eq_true rfl, Nat.le_of_ble_eq_true rfl⟩ (fun E ce q9 u H locs hT hW hk hS hc1 hc2 hc3 => ?_) (fun r u H locs hw hW hk hS => ?_)
  · have hO := hO.kept (hk _ hoa (fun h => h.elim (fun ⟨k, h1, h2⟩ => hne k h1 h2) (fun h => absurd hoa (Nat.not_lt.mpr h))))
    obtain ⟨rfl, hw⟩ := hT
    refine vx_catch hown [] ⟨0, 10, 13, 25⟩ [] (by rw [htab]; rfl) (fun z hz => nomatch hz) (by decide) (by decide) (hts _ cl_L_25) (va_Nw.use rfl (hY.2.1 _ (by decide))) hc1 hc2 hc3 ?_
    refine lv_astore (lv' := [(4, .ref q9), (0, .ref (ad 0)), (1, .int a0), (2, .int a1), (3, .ref oa)]) hx hb dL_near_13 hl (by decide) rfl (fun ls hl => ?_)
    refine lv_iconst (v := 1) hx hb dL_near_15 (by decide) ?_
    refine vx_ret ?_
    exact gk_rethl C0 (u := (_, _)) hw hW hO hS dL_near_16
  · have hO := hO.kept (hk _ hoa (fun h => h.elim (fun ⟨k, h1, h2⟩ => hne k h1 h2) (fun h => absurd hoa (Nat.not_lt.mpr h))))
    refine lv_i2l (v := r.toInt64) hx hb dL_near_8 rfl ?_
    refine gk_last hx hb hK hS (Or.inl rfl) hO dL_near_9 (fun H locs hO z1 oq hS => ?_)
    have hW := hW.kept (fun k hk9 => oq _ (fun e => hne k hk9 e.symm))
    refine lv_goto (tgt := 17) hx hb dL_near_10 (by decide) ?_
    refine lv_iconst (v := 0) hx hb dL_near_17 (by decide) ?_
    refine vx_ret ?_
    exact gk_rethl C0 (u := (_, _)) hw hW hO hS dL_near_18
def w_L_far (σ : gk_C) (o : Int64) (a0 : Int32) (a1 : Int32) (Q : Int32 → gk_C → Int64 → Prop) : Prop := w_X8_far σ a0 a1 (fun E u => (E = gk_E1 ∧ Q 1 u o)) (fun r u => Q 0 u r.toInt64)
abbrev rmL_far : Room := { frames := 8, cells := 1, slots := 6, locals := 124 }
set_option maxHeartbeats 4000000 in
set_option maxRecDepth 100000 in
theorem c_L_far (l : Launch) (hfl : l.stackTraces = false) (D : va_G) (cI cZ cG cL : ClassId) (ad : Nat → Nat) (q1 q2 q3 oa : Nat) {σ : gk_C} {o : Int64} {a0 : Int32} {a1 : Int32} {Q : Int32 → gk_C → Int64 → Prop} {sz : Nat} (hw : w_L_far σ o a0 a1 Q) : vx_Met l yL_far wsL_far rmL_far (gk_Pl D cI cZ cG cL ad q1 q2 q3 oa [.ref (ad 0), .int a0, .int a1, .ref oa] sz σ o) (gk_Ql D cI cL ad oa Q sz) gk_XF 1 6 (gk_Al ad oa sz) := by
  refine vx_ofWH (cc := cL_far) (maxL := 5) (ret := (some .int)) (by decide) rfl ?_
  intro p e s m args below meth c s₁ B hml0 hv0
  obtain ⟨rfl, hsz, hW, hO, hne, hK, hY, hN⟩ := hv0
  subst hsz
  have C0 : gk_F p s m ([.ref (ad 0), .int a0, .int a1, .ref oa] : List Value).toArray meth c cL_far 5 (some .int) RL := ⟨B.exec, B.bytes, hml0, findClass_of_methodNamed B.named, fun w hw => atoms_spec (ws := wsL_far) B.pre w (List.mem_cons_of_mem _ hw), B.returns, B.notSynchronized⟩
  obtain ⟨hx, hb, hml, hown, hts, hr, hlocks⟩ := id C0
  have htab := vx_table (x := yL_far) B (atoms_spec (ws := wsL_far) B.pre _ List.mem_cons_self)
  have hS : va_S (gk_Al ad oa s.heap.size) s.heap s.heap [] := va_S.rf
  have hoa := hO.lt
  have hl := lv_entry ([.ref (ad 0), .int a0, .int a1, .ref oa]) (n := 5) (Nat.le_of_ble_eq_true rfl)
  rw [lg_entry_eq]
  generalize (lg_sl ([.ref (ad 0), .int a0, .int a1, .ref oa]) ++ List.replicate (5 - (lg_sl ([.ref (ad 0), .int a0, .int a1, .ref oa])).length) Slot.unset).toArray = ls at hl ⊢
  have hl : lv_has ls 5 [(0, .ref (ad 0)), (1, .int a0), (2, .int a1), (3, .ref oa)] := hl
  show W p l e rmL_far s m _ below meth c s.heap [] 0 0 _ _
  refine lv_aload_n hx hb dL_far_0 rfl (lv_at hl 3 rfl) ?_
  refine lv_iconst (v := 0) hx hb dL_far_1 (by decide) ?_
  refine lv_aload_n hx hb dL_far_2 rfl (lv_at hl 0 rfl) ?_
  refine lv_iload_n hx hb dL_far_3 rfl (lv_at hl 1 rfl) ?_
  refine lv_iload_n hx hb dL_far_4 rfl (lv_at hl 2 rfl) ?_
  refine gk_callTi ⟨hx, hb, hml, hown, hts⟩ (c_X8_far l hfl D cI cZ cG cL ad q1 q2 q3 hw) (cwV 2 hts (gk_gV ml_L_51 im_X8_far se_X8_far in_X8 co_X8_far) rfl rfl rfl (by decide +kernel) ⟨Nat.le_of_ble_eq_true rfl, Nat.le_of_ble_eq_true rfl⟩) (gk_recv hK.1 (gk_o0 hW) rfl) hW hK hY hS (fun q h => Or.inr h) rfl hl.1 (rest := [.int 0, .ref oa]) rfl (lv_room (Nat.le_of_ble_eq_true rfl)) dL_far_5 ⟨Nat.le_of_ble_eq_true rfl, Nat.le_of_ble_eq_true rfl⟩ (fun E ce q9 u H locs hT hW hk hS hc1 hc2 hc3 => ?_) (fun r u H locs hw hW hk hS => ?_)
  · have hO := hO.kept (hk _ hoa (fun h => h.elim (fun ⟨k, h1, h2⟩ => hne k h1 h2) (fun h => absurd hoa (Nat.not_lt.mpr h))))
    obtain ⟨rfl, hw⟩ := hT
    refine vx_catch hown [] ⟨0, 10, 13, 25⟩ [] (by rw [htab]; rfl) (fun z hz => nomatch hz) (by decide) (by decide) (hts _ cl_L_25) (va_Nw.use rfl (hY.2.1 _ (by decide))) hc1 hc2 hc3 ?_
    refine lv_astore (lv' := [(4, .ref q9), (0, .ref (ad 0)), (1, .int a0), (2, .int a1), (3, .ref oa)]) hx hb dL_far_13 hl (by decide) rfl (fun ls hl => ?_)
    refine lv_iconst (v := 1) hx hb dL_far_15 (by decide) ?_
    refine vx_ret ?_
    exact gk_rethl C0 (u := (_, _)) hw hW hO hS dL_far_16
  · have hO := hO.kept (hk _ hoa (fun h => h.elim (fun ⟨k, h1, h2⟩ => hne k h1 h2) (fun h => absurd hoa (Nat.not_lt.mpr h))))
    refine lv_i2l (v := r.toInt64) hx hb dL_far_8 rfl ?_
    refine gk_last hx hb hK hS (Or.inl rfl) hO dL_far_9 (fun H locs hO z1 oq hS => ?_)
    have hW := hW.kept (fun k hk9 => oq _ (fun e => hne k hk9 e.symm))
    refine lv_goto (tgt := 17) hx hb dL_far_10 (by decide) ?_
    refine lv_iconst (v := 0) hx hb dL_far_17 (by decide) ?_
    refine vx_ret ?_
    exact gk_rethl C0 (u := (_, _)) hw hW hO hS dL_far_18
def w_L_addRule (σ : gk_C) (o : Int64) (a0 : Int32) (a1 : Int32) (a2 : Int32) (a3 : Int32) (Q : Int32 → gk_C → Int64 → Prop) : Prop := w_X8_addRule σ a0 a1 a2 a3 (fun E u => (E = gk_E1 ∧ Q 1 u o) ∨ (E = gk_E2 ∧ Q 2 u o) ∨ (E = gk_E3 ∧ Q 3 u o)) (fun r u => Q 0 u r.toInt64)
abbrev rmL_addRule : Room := { frames := 8, cells := 3, slots := 18, locals := 126 }
set_option maxHeartbeats 4000000 in
set_option maxRecDepth 100000 in
theorem c_L_addRule (l : Launch) (hfl : l.stackTraces = false) (D : va_G) (cI cZ cG cL : ClassId) (ad : Nat → Nat) (q1 q2 q3 oa : Nat) {σ : gk_C} {o : Int64} {a0 : Int32} {a1 : Int32} {a2 : Int32} {a3 : Int32} {Q : Int32 → gk_C → Int64 → Prop} {sz : Nat} (hw : w_L_addRule σ o a0 a1 a2 a3 Q) : vx_Met l yL_addRule wsL_addRule rmL_addRule (gk_Pl D cI cZ cG cL ad q1 q2 q3 oa [.ref (ad 0), .int a0, .int a1, .int a2, .int a3, .ref oa] sz σ o) (gk_Ql D cI cL ad oa Q sz) gk_XF 3 18 (gk_Al ad oa sz) := by
  refine vx_ofWH (cc := cL_addRule) (maxL := 7) (ret := (some .int)) (by decide) rfl ?_
  intro p e s m args below meth c s₁ B hml0 hv0
  obtain ⟨rfl, hsz, hW, hO, hne, hK, hY, hN⟩ := hv0
  subst hsz
  have C0 : gk_F p s m ([.ref (ad 0), .int a0, .int a1, .int a2, .int a3, .ref oa] : List Value).toArray meth c cL_addRule 7 (some .int) RL := ⟨B.exec, B.bytes, hml0, findClass_of_methodNamed B.named, fun w hw => atoms_spec (ws := wsL_addRule) B.pre w (List.mem_cons_of_mem _ hw), B.returns, B.notSynchronized⟩
  obtain ⟨hx, hb, hml, hown, hts, hr, hlocks⟩ := id C0
  have htab := vx_table (x := yL_addRule) B (atoms_spec (ws := wsL_addRule) B.pre _ List.mem_cons_self)
  have hS : va_S (gk_Al ad oa s.heap.size) s.heap s.heap [] := va_S.rf
  have hoa := hO.lt
  have hl := lv_entry ([.ref (ad 0), .int a0, .int a1, .int a2, .int a3, .ref oa]) (n := 7) (Nat.le_of_ble_eq_true rfl)
  rw [lg_entry_eq]
  generalize (lg_sl ([.ref (ad 0), .int a0, .int a1, .int a2, .int a3, .ref oa]) ++ List.replicate (7 - (lg_sl ([.ref (ad 0), .int a0, .int a1, .int a2, .int a3, .ref oa])).length) Slot.unset).toArray = ls at hl ⊢
  have hl : lv_has ls 7 [(0, .ref (ad 0)), (1, .int a0), (2, .int a1), (3, .int a2), (4, .int a3), (5, .ref oa)] := hl
  show W p l e rmL_addRule s m _ below meth c s.heap [] 0 0 _ _
  refine lv_aload hx hb dL_addRule_0 (lv_at hl 5 rfl) ?_
  refine lv_iconst (v := 0) hx hb dL_addRule_2 (by decide) ?_
  refine lv_aload_n hx hb dL_addRule_3 rfl (lv_at hl 0 rfl) ?_
  refine lv_iload_n hx hb dL_addRule_4 rfl (lv_at hl 1 rfl) ?_
  refine lv_iload_n hx hb dL_addRule_5 rfl (lv_at hl 2 rfl) ?_
  refine lv_iload_n hx hb dL_addRule_6 rfl (lv_at hl 3 rfl) ?_
  refine lv_iload hx hb dL_addRule_7 (lv_at hl 4 rfl) ?_
  refine gk_callTi ⟨hx, hb, hml, hown, hts⟩ (c_X8_addRule l hfl D cI cZ cG cL ad q1 q2 q3 hw) (cwV 4 hts (gk_gV ml_L_54 im_X8_addRule se_X8_addRule in_X8 co_X8_addRule) rfl rfl rfl (by decide +kernel) ⟨Nat.le_of_ble_eq_true rfl, Nat.le_of_ble_eq_true rfl⟩) (gk_recv hK.1 (gk_o0 hW) rfl) hW hK hY hS (fun q h => Or.inr h) rfl hl.1 (rest := [.int 0, .ref oa]) rfl (lv_room (Nat.le_of_ble_eq_true rfl)) dL_addRule_9 ⟨Nat.le_of_ble_eq_true rfl, Nat.le_of_ble_eq_true rfl⟩ (fun E ce q9 u H locs hT hW hk hS hc1 hc2 hc3 => ?_) (fun r u H locs hw hW hk hS => ?_)
  · have hO := hO.kept (hk _ hoa (fun h => h.elim (fun ⟨k, h1, h2⟩ => hne k h1 h2) (fun h => absurd hoa (Nat.not_lt.mpr h))))
    rcases hT with ⟨rfl, hw⟩ | ⟨rfl, hw⟩ | ⟨rfl, hw⟩
    · refine vx_catch hown [] ⟨0, 14, 17, 25⟩ [⟨0, 14, 21, 13⟩, ⟨0, 14, 25, 15⟩] (by rw [htab]; rfl) (fun z hz => nomatch hz) (by decide) (by decide) (hts _ cl_L_25) (va_Nw.use rfl (hY.2.1 _ (by decide))) hc1 hc2 hc3 ?_
      refine lv_astore (lv' := [(6, .ref q9), (0, .ref (ad 0)), (1, .int a0), (2, .int a1), (3, .int a2), (4, .int a3), (5, .ref oa)]) hx hb dL_addRule_17 hl (by decide) rfl (fun ls hl => ?_)
      refine lv_iconst (v := 1) hx hb dL_addRule_19 (by decide) ?_
      refine vx_ret ?_
      exact gk_rethl C0 (u := (_, _)) hw hW hO hS dL_addRule_20
    · have hp : ∀ z ∈ ([⟨0, 14, 17, 25⟩] : List ExceptionTableEntry), covers z 9 = false ∨ (z.catchType ≠ 0 ∧ ∃ nm : String, (Cond.classLink RL z.catchType nm).before ([.ref (ad 0), .int a0, .int a1, .int a2, .int a3, .ref oa] : List Value).toArray s = true ∧ va_Nc gk_E2 nm s) := by
        intro z hz
        simp only [List.mem_cons, List.not_mem_nil, or_false] at hz
        subst hz
        exact Or.inr ⟨by decide, gk_E1, hts _ cl_L_25, hN.2.2.1⟩
      refine vx_catch hown [⟨0, 14, 17, 25⟩] ⟨0, 14, 21, 13⟩ [⟨0, 14, 25, 15⟩] (by rw [htab]; rfl) hp (by decide) (by decide) (hts _ cl_L_13) (va_Nw.use rfl (hY.2.1 _ (by decide))) hc1 hc2 hc3 ?_
      refine lv_astore (lv' := [(6, .ref q9), (0, .ref (ad 0)), (1, .int a0), (2, .int a1), (3, .int a2), (4, .int a3), (5, .ref oa)]) hx hb dL_addRule_21 hl (by decide) rfl (fun ls hl => ?_)
      refine lv_iconst (v := 2) hx hb dL_addRule_23 (by decide) ?_
      refine vx_ret ?_
      exact gk_rethl C0 (u := (_, _)) hw hW hO hS dL_addRule_24
    · have hp : ∀ z ∈ ([⟨0, 14, 17, 25⟩, ⟨0, 14, 21, 13⟩] : List ExceptionTableEntry), covers z 9 = false ∨ (z.catchType ≠ 0 ∧ ∃ nm : String, (Cond.classLink RL z.catchType nm).before ([.ref (ad 0), .int a0, .int a1, .int a2, .int a3, .ref oa] : List Value).toArray s = true ∧ va_Nc gk_E3 nm s) := by
        intro z hz
        simp only [List.mem_cons, List.not_mem_nil, or_false] at hz
        rcases hz with rfl | rfl
        · exact Or.inr ⟨by decide, gk_E1, hts _ cl_L_25, hN.2.2.2.2.1⟩
        · exact Or.inr ⟨by decide, gk_E2, hts _ cl_L_13, hN.2.2.2.2.2⟩
      refine vx_catch hown [⟨0, 14, 17, 25⟩, ⟨0, 14, 21, 13⟩] ⟨0, 14, 25, 15⟩ [] (by rw [htab]; rfl) hp (by decide) (by decide) (hts _ cl_L_15) (va_Nw.use rfl (hY.2.1 _ (by decide))) hc1 hc2 hc3 ?_
      refine lv_astore (lv' := [(6, .ref q9), (0, .ref (ad 0)), (1, .int a0), (2, .int a1), (3, .int a2), (4, .int a3), (5, .ref oa)]) hx hb dL_addRule_25 hl (by decide) rfl (fun ls hl => ?_)
      refine lv_iconst (v := 3) hx hb dL_addRule_27 (by decide) ?_
      refine vx_ret ?_
      exact gk_rethl C0 (u := (_, _)) hw hW hO hS dL_addRule_28
  · have hO := hO.kept (hk _ hoa (fun h => h.elim (fun ⟨k, h1, h2⟩ => hne k h1 h2) (fun h => absurd hoa (Nat.not_lt.mpr h))))
    refine lv_i2l (v := r.toInt64) hx hb dL_addRule_12 rfl ?_
    refine gk_last hx hb hK hS (Or.inl rfl) hO dL_addRule_13 (fun H locs hO z1 oq hS => ?_)
    have hW := hW.kept (fun k hk9 => oq _ (fun e => hne k hk9 e.symm))
    refine lv_goto (tgt := 29) hx hb dL_addRule_14 (by decide) ?_
    refine lv_iconst (v := 0) hx hb dL_addRule_29 (by decide) ?_
    refine vx_ret ?_
    exact gk_rethl C0 (u := (_, _)) hw hW hO hS dL_addRule_30
def w_L_setRule (σ : gk_C) (o : Int64) (a0 : Int32) (a1 : Int32) (a2 : Int32) (Q : Int32 → gk_C → Int64 → Prop) : Prop := w_X8_setRule σ a0 a1 a2 (fun E u => (E = gk_E1 ∧ Q 1 u o) ∨ (E = gk_E2 ∧ Q 2 u o)) (fun r u => Q 0 u r.toInt64)
abbrev rmL_setRule : Room := { frames := 8, cells := 2, slots := 12, locals := 126 }
set_option maxHeartbeats 4000000 in
set_option maxRecDepth 100000 in
theorem c_L_setRule (l : Launch) (hfl : l.stackTraces = false) (D : va_G) (cI cZ cG cL : ClassId) (ad : Nat → Nat) (q1 q2 q3 oa : Nat) {σ : gk_C} {o : Int64} {a0 : Int32} {a1 : Int32} {a2 : Int32} {Q : Int32 → gk_C → Int64 → Prop} {sz : Nat} (hw : w_L_setRule σ o a0 a1 a2 Q) : vx_Met l yL_setRule wsL_setRule rmL_setRule (gk_Pl D cI cZ cG cL ad q1 q2 q3 oa [.ref (ad 0), .int a0, .int a1, .int a2, .ref oa] sz σ o) (gk_Ql D cI cL ad oa Q sz) gk_XF 2 12 (gk_Al ad oa sz) := by
  refine vx_ofWH (cc := cL_setRule) (maxL := 6) (ret := (some .int)) (by decide) rfl ?_
  intro p e s m args below meth c s₁ B hml0 hv0
  obtain ⟨rfl, hsz, hW, hO, hne, hK, hY, hN⟩ := hv0
  subst hsz
  have C0 : gk_F p s m ([.ref (ad 0), .int a0, .int a1, .int a2, .ref oa] : List Value).toArray meth c cL_setRule 6 (some .int) RL := ⟨B.exec, B.bytes, hml0, findClass_of_methodNamed B.named, fun w hw => atoms_spec (ws := wsL_setRule) B.pre w (List.mem_cons_of_mem _ hw), B.returns, B.notSynchronized⟩
  obtain ⟨hx, hb, hml, hown, hts, hr, hlocks⟩ := id C0
  have htab := vx_table (x := yL_setRule) B (atoms_spec (ws := wsL_setRule) B.pre _ List.mem_cons_self)
  have hS : va_S (gk_Al ad oa s.heap.size) s.heap s.heap [] := va_S.rf
  have hoa := hO.lt
  have hl := lv_entry ([.ref (ad 0), .int a0, .int a1, .int a2, .ref oa]) (n := 6) (Nat.le_of_ble_eq_true rfl)
  rw [lg_entry_eq]
  generalize (lg_sl ([.ref (ad 0), .int a0, .int a1, .int a2, .ref oa]) ++ List.replicate (6 - (lg_sl ([.ref (ad 0), .int a0, .int a1, .int a2, .ref oa])).length) Slot.unset).toArray = ls at hl ⊢
  have hl : lv_has ls 6 [(0, .ref (ad 0)), (1, .int a0), (2, .int a1), (3, .int a2), (4, .ref oa)] := hl
  show W p l e rmL_setRule s m _ below meth c s.heap [] 0 0 _ _
  refine lv_aload hx hb dL_setRule_0 (lv_at hl 4 rfl) ?_
  refine lv_iconst (v := 0) hx hb dL_setRule_2 (by decide) ?_
  refine lv_aload_n hx hb dL_setRule_3 rfl (lv_at hl 0 rfl) ?_
  refine lv_iload_n hx hb dL_setRule_4 rfl (lv_at hl 1 rfl) ?_
  refine lv_iload_n hx hb dL_setRule_5 rfl (lv_at hl 2 rfl) ?_
  refine lv_iload_n hx hb dL_setRule_6 rfl (lv_at hl 3 rfl) ?_
  refine gk_callTi ⟨hx, hb, hml, hown, hts⟩ (c_X8_setRule l hfl D cI cZ cG cL ad q1 q2 q3 hw) (cwV 3 hts (gk_gV ml_L_58 im_X8_setRule se_X8_setRule in_X8 co_X8_setRule) rfl rfl rfl (by decide +kernel) ⟨Nat.le_of_ble_eq_true rfl, Nat.le_of_ble_eq_true rfl⟩) (gk_recv hK.1 (gk_o0 hW) rfl) hW hK hY hS (fun q h => Or.inr h) rfl hl.1 (rest := [.int 0, .ref oa]) rfl (lv_room (Nat.le_of_ble_eq_true rfl)) dL_setRule_7 ⟨Nat.le_of_ble_eq_true rfl, Nat.le_of_ble_eq_true rfl⟩ (fun E ce q9 u H locs hT hW hk hS hc1 hc2 hc3 => ?_) (fun r u H locs hw hW hk hS => ?_)
  · have hO := hO.kept (hk _ hoa (fun h => h.elim (fun ⟨k, h1, h2⟩ => hne k h1 h2) (fun h => absurd hoa (Nat.not_lt.mpr h))))
    rcases hT with ⟨rfl, hw⟩ | ⟨rfl, hw⟩
    · refine vx_catch hown [] ⟨0, 12, 15, 25⟩ [⟨0, 12, 19, 13⟩] (by rw [htab]; rfl) (fun z hz => nomatch hz) (by decide) (by decide) (hts _ cl_L_25) (va_Nw.use rfl (hY.2.1 _ (by decide))) hc1 hc2 hc3 ?_
      refine lv_astore (lv' := [(5, .ref q9), (0, .ref (ad 0)), (1, .int a0), (2, .int a1), (3, .int a2), (4, .ref oa)]) hx hb dL_setRule_15 hl (by decide) rfl (fun ls hl => ?_)
      refine lv_iconst (v := 1) hx hb dL_setRule_17 (by decide) ?_
      refine vx_ret ?_
      exact gk_rethl C0 (u := (_, _)) hw hW hO hS dL_setRule_18
    · have hp : ∀ z ∈ ([⟨0, 12, 15, 25⟩] : List ExceptionTableEntry), covers z 7 = false ∨ (z.catchType ≠ 0 ∧ ∃ nm : String, (Cond.classLink RL z.catchType nm).before ([.ref (ad 0), .int a0, .int a1, .int a2, .ref oa] : List Value).toArray s = true ∧ va_Nc gk_E2 nm s) := by
        intro z hz
        simp only [List.mem_cons, List.not_mem_nil, or_false] at hz
        subst hz
        exact Or.inr ⟨by decide, gk_E1, hts _ cl_L_25, hN.2.2.1⟩
      refine vx_catch hown [⟨0, 12, 15, 25⟩] ⟨0, 12, 19, 13⟩ [] (by rw [htab]; rfl) hp (by decide) (by decide) (hts _ cl_L_13) (va_Nw.use rfl (hY.2.1 _ (by decide))) hc1 hc2 hc3 ?_
      refine lv_astore (lv' := [(5, .ref q9), (0, .ref (ad 0)), (1, .int a0), (2, .int a1), (3, .int a2), (4, .ref oa)]) hx hb dL_setRule_19 hl (by decide) rfl (fun ls hl => ?_)
      refine lv_iconst (v := 2) hx hb dL_setRule_21 (by decide) ?_
      refine vx_ret ?_
      exact gk_rethl C0 (u := (_, _)) hw hW hO hS dL_setRule_22
  · have hO := hO.kept (hk _ hoa (fun h => h.elim (fun ⟨k, h1, h2⟩ => hne k h1 h2) (fun h => absurd hoa (Nat.not_lt.mpr h))))
    refine lv_i2l (v := r.toInt64) hx hb dL_setRule_10 rfl ?_
    refine gk_last hx hb hK hS (Or.inl rfl) hO dL_setRule_11 (fun H locs hO z1 oq hS => ?_)
    have hW := hW.kept (fun k hk9 => oq _ (fun e => hne k hk9 e.symm))
    refine lv_goto (tgt := 23) hx hb dL_setRule_12 (by decide) ?_
    refine lv_iconst (v := 0) hx hb dL_setRule_23 (by decide) ?_
    refine vx_ret ?_
    exact gk_rethl C0 (u := (_, _)) hw hW hO hS dL_setRule_24
def w_L_setTerms (σ : gk_C) (o : Int64) (a0 : Int32) (a1 : Int32) (a2 : Int32) (a3 : Int32) (Q : Int32 → gk_C → Int64 → Prop) : Prop := w_X8_setTerms σ a0 a1 a2 a3 (fun E u => (E = gk_E1 ∧ Q 1 u o) ∨ (E = gk_E2 ∧ Q 2 u o)) (fun r u => Q 0 u r.toInt64)
abbrev rmL_setTerms : Room := { frames := 8, cells := 2, slots := 12, locals := 127 }
set_option maxHeartbeats 4000000 in
set_option maxRecDepth 100000 in
theorem c_L_setTerms (l : Launch) (hfl : l.stackTraces = false) (D : va_G) (cI cZ cG cL : ClassId) (ad : Nat → Nat) (q1 q2 q3 oa : Nat) {σ : gk_C} {o : Int64} {a0 : Int32} {a1 : Int32} {a2 : Int32} {a3 : Int32} {Q : Int32 → gk_C → Int64 → Prop} {sz : Nat} (hw : w_L_setTerms σ o a0 a1 a2 a3 Q) : vx_Met l yL_setTerms wsL_setTerms rmL_setTerms (gk_Pl D cI cZ cG cL ad q1 q2 q3 oa [.ref (ad 0), .int a0, .int a1, .int a2, .int a3, .ref oa] sz σ o) (gk_Ql D cI cL ad oa Q sz) gk_XF 2 12 (gk_Al ad oa sz) := by
  refine vx_ofWH (cc := cL_setTerms) (maxL := 7) (ret := (some .int)) (by decide) rfl ?_
  intro p e s m args below meth c s₁ B hml0 hv0
  obtain ⟨rfl, hsz, hW, hO, hne, hK, hY, hN⟩ := hv0
  subst hsz
  have C0 : gk_F p s m ([.ref (ad 0), .int a0, .int a1, .int a2, .int a3, .ref oa] : List Value).toArray meth c cL_setTerms 7 (some .int) RL := ⟨B.exec, B.bytes, hml0, findClass_of_methodNamed B.named, fun w hw => atoms_spec (ws := wsL_setTerms) B.pre w (List.mem_cons_of_mem _ hw), B.returns, B.notSynchronized⟩
  obtain ⟨hx, hb, hml, hown, hts, hr, hlocks⟩ := id C0
  have htab := vx_table (x := yL_setTerms) B (atoms_spec (ws := wsL_setTerms) B.pre _ List.mem_cons_self)
  have hS : va_S (gk_Al ad oa s.heap.size) s.heap s.heap [] := va_S.rf
  have hoa := hO.lt
  have hl := lv_entry ([.ref (ad 0), .int a0, .int a1, .int a2, .int a3, .ref oa]) (n := 7) (Nat.le_of_ble_eq_true rfl)
  rw [lg_entry_eq]
  generalize (lg_sl ([.ref (ad 0), .int a0, .int a1, .int a2, .int a3, .ref oa]) ++ List.replicate (7 - (lg_sl ([.ref (ad 0), .int a0, .int a1, .int a2, .int a3, .ref oa])).length) Slot.unset).toArray = ls at hl ⊢
  have hl : lv_has ls 7 [(0, .ref (ad 0)), (1, .int a0), (2, .int a1), (3, .int a2), (4, .int a3), (5, .ref oa)] := hl
  show W p l e rmL_setTerms s m _ below meth c s.heap [] 0 0 _ _
  refine lv_aload hx hb dL_setTerms_0 (lv_at hl 5 rfl) ?_
  refine lv_iconst (v := 0) hx hb dL_setTerms_2 (by decide) ?_
  refine lv_aload_n hx hb dL_setTerms_3 rfl (lv_at hl 0 rfl) ?_
  refine lv_iload_n hx hb dL_setTerms_4 rfl (lv_at hl 1 rfl) ?_
  refine lv_iload_n hx hb dL_setTerms_5 rfl (lv_at hl 2 rfl) ?_
  refine lv_iload_n hx hb dL_setTerms_6 rfl (lv_at hl 3 rfl) ?_
  refine lv_iload hx hb dL_setTerms_7 (lv_at hl 4 rfl) ?_
  refine gk_callTi ⟨hx, hb, hml, hown, hts⟩ (c_X8_setTerms l hfl D cI cZ cG cL ad q1 q2 q3 hw) (cwV 4 hts (gk_gV ml_L_62 im_X8_setTerms se_X8_setTerms in_X8 co_X8_setTerms) rfl rfl rfl (by decide +kernel) ⟨Nat.le_of_ble_eq_true rfl, Nat.le_of_ble_eq_true rfl⟩) (gk_recv hK.1 (gk_o0 hW) rfl) hW hK hY hS (fun q h => Or.inr h) rfl hl.1 (rest := [.int 0, .ref oa]) rfl (lv_room (Nat.le_of_ble_eq_true rfl)) dL_setTerms_9 ⟨Nat.le_of_ble_eq_true rfl, Nat.le_of_ble_eq_true rfl⟩ (fun E ce q9 u H locs hT hW hk hS hc1 hc2 hc3 => ?_) (fun r u H locs hw hW hk hS => ?_)
  · have hO := hO.kept (hk _ hoa (fun h => h.elim (fun ⟨k, h1, h2⟩ => hne k h1 h2) (fun h => absurd hoa (Nat.not_lt.mpr h))))
    rcases hT with ⟨rfl, hw⟩ | ⟨rfl, hw⟩
    · refine vx_catch hown [] ⟨0, 14, 17, 25⟩ [⟨0, 14, 21, 13⟩] (by rw [htab]; rfl) (fun z hz => nomatch hz) (by decide) (by decide) (hts _ cl_L_25) (va_Nw.use rfl (hY.2.1 _ (by decide))) hc1 hc2 hc3 ?_
      refine lv_astore (lv' := [(6, .ref q9), (0, .ref (ad 0)), (1, .int a0), (2, .int a1), (3, .int a2), (4, .int a3), (5, .ref oa)]) hx hb dL_setTerms_17 hl (by decide) rfl (fun ls hl => ?_)
      refine lv_iconst (v := 1) hx hb dL_setTerms_19 (by decide) ?_
      refine vx_ret ?_
      exact gk_rethl C0 (u := (_, _)) hw hW hO hS dL_setTerms_20
    · have hp : ∀ z ∈ ([⟨0, 14, 17, 25⟩] : List ExceptionTableEntry), covers z 9 = false ∨ (z.catchType ≠ 0 ∧ ∃ nm : String, (Cond.classLink RL z.catchType nm).before ([.ref (ad 0), .int a0, .int a1, .int a2, .int a3, .ref oa] : List Value).toArray s = true ∧ va_Nc gk_E2 nm s) := by
        intro z hz
        simp only [List.mem_cons, List.not_mem_nil, or_false] at hz
        subst hz
        exact Or.inr ⟨by decide, gk_E1, hts _ cl_L_25, hN.2.2.1⟩
      refine vx_catch hown [⟨0, 14, 17, 25⟩] ⟨0, 14, 21, 13⟩ [] (by rw [htab]; rfl) hp (by decide) (by decide) (hts _ cl_L_13) (va_Nw.use rfl (hY.2.1 _ (by decide))) hc1 hc2 hc3 ?_
      refine lv_astore (lv' := [(6, .ref q9), (0, .ref (ad 0)), (1, .int a0), (2, .int a1), (3, .int a2), (4, .int a3), (5, .ref oa)]) hx hb dL_setTerms_21 hl (by decide) rfl (fun ls hl => ?_)
      refine lv_iconst (v := 2) hx hb dL_setTerms_23 (by decide) ?_
      refine vx_ret ?_
      exact gk_rethl C0 (u := (_, _)) hw hW hO hS dL_setTerms_24
  · have hO := hO.kept (hk _ hoa (fun h => h.elim (fun ⟨k, h1, h2⟩ => hne k h1 h2) (fun h => absurd hoa (Nat.not_lt.mpr h))))
    refine lv_i2l (v := r.toInt64) hx hb dL_setTerms_12 rfl ?_
    refine gk_last hx hb hK hS (Or.inl rfl) hO dL_setTerms_13 (fun H locs hO z1 oq hS => ?_)
    have hW := hW.kept (fun k hk9 => oq _ (fun e => hne k hk9 e.symm))
    refine lv_goto (tgt := 25) hx hb dL_setTerms_14 (by decide) ?_
    refine lv_iconst (v := 0) hx hb dL_setTerms_25 (by decide) ?_
    refine vx_ret ?_
    exact gk_rethl C0 (u := (_, _)) hw hW hO hS dL_setTerms_26
def w_L_dropRule (σ : gk_C) (o : Int64) (a0 : Int32) (Q : Int32 → gk_C → Int64 → Prop) : Prop := w_X8_dropRule σ a0 (fun E u => (E = gk_E1 ∧ Q 1 u o)) (fun r u => Q 0 u r.toInt64)
abbrev rmL_dropRule : Room := { frames := 8, cells := 1, slots := 6, locals := 123 }
set_option maxHeartbeats 4000000 in
set_option maxRecDepth 100000 in
theorem c_L_dropRule (l : Launch) (hfl : l.stackTraces = false) (D : va_G) (cI cZ cG cL : ClassId) (ad : Nat → Nat) (q1 q2 q3 oa : Nat) {σ : gk_C} {o : Int64} {a0 : Int32} {Q : Int32 → gk_C → Int64 → Prop} {sz : Nat} (hw : w_L_dropRule σ o a0 Q) : vx_Met l yL_dropRule wsL_dropRule rmL_dropRule (gk_Pl D cI cZ cG cL ad q1 q2 q3 oa [.ref (ad 0), .int a0, .ref oa] sz σ o) (gk_Ql D cI cL ad oa Q sz) gk_XF 1 6 (gk_Al ad oa sz) := by
  refine vx_ofWH (cc := cL_dropRule) (maxL := 4) (ret := (some .int)) (by decide) rfl ?_
  intro p e s m args below meth c s₁ B hml0 hv0
  obtain ⟨rfl, hsz, hW, hO, hne, hK, hY, hN⟩ := hv0
  subst hsz
  have C0 : gk_F p s m ([.ref (ad 0), .int a0, .ref oa] : List Value).toArray meth c cL_dropRule 4 (some .int) RL := ⟨B.exec, B.bytes, hml0, findClass_of_methodNamed B.named, fun w hw => atoms_spec (ws := wsL_dropRule) B.pre w (List.mem_cons_of_mem _ hw), B.returns, B.notSynchronized⟩
  obtain ⟨hx, hb, hml, hown, hts, hr, hlocks⟩ := id C0
  have htab := vx_table (x := yL_dropRule) B (atoms_spec (ws := wsL_dropRule) B.pre _ List.mem_cons_self)
  have hS : va_S (gk_Al ad oa s.heap.size) s.heap s.heap [] := va_S.rf
  have hoa := hO.lt
  have hl := lv_entry ([.ref (ad 0), .int a0, .ref oa]) (n := 4) (Nat.le_of_ble_eq_true rfl)
  rw [lg_entry_eq]
  generalize (lg_sl ([.ref (ad 0), .int a0, .ref oa]) ++ List.replicate (4 - (lg_sl ([.ref (ad 0), .int a0, .ref oa])).length) Slot.unset).toArray = ls at hl ⊢
  have hl : lv_has ls 4 [(0, .ref (ad 0)), (1, .int a0), (2, .ref oa)] := hl
  show W p l e rmL_dropRule s m _ below meth c s.heap [] 0 0 _ _
  refine lv_aload_n hx hb dL_dropRule_0 rfl (lv_at hl 2 rfl) ?_
  refine lv_iconst (v := 0) hx hb dL_dropRule_1 (by decide) ?_
  refine lv_aload_n hx hb dL_dropRule_2 rfl (lv_at hl 0 rfl) ?_
  refine lv_iload_n hx hb dL_dropRule_3 rfl (lv_at hl 1 rfl) ?_
  refine gk_callTi ⟨hx, hb, hml, hown, hts⟩ (c_X8_dropRule l hfl D cI cZ cG cL ad q1 q2 q3 hw) (cwV 1 hts (gk_gV ml_L_66 im_X8_dropRule se_X8_dropRule in_X8 co_X8_dropRule) rfl rfl rfl (by decide +kernel) ⟨Nat.le_of_ble_eq_true rfl, Nat.le_of_ble_eq_true rfl⟩) (gk_recv hK.1 (gk_o0 hW) rfl) hW hK hY hS (fun q h => Or.inr h) rfl hl.1 (rest := [.int 0, .ref oa]) rfl (lv_room (Nat.le_of_ble_eq_true rfl)) dL_dropRule_4 ⟨Nat.le_of_ble_eq_true rfl, Nat.le_of_ble_eq_true rfl⟩ (fun E ce q9 u H locs hT hW hk hS hc1 hc2 hc3 => ?_) (fun r u H locs hw hW hk hS => ?_)
  · have hO := hO.kept (hk _ hoa (fun h => h.elim (fun ⟨k, h1, h2⟩ => hne k h1 h2) (fun h => absurd hoa (Nat.not_lt.mpr h))))
    obtain ⟨rfl, hw⟩ := hT
    refine vx_catch hown [] ⟨0, 9, 12, 25⟩ [] (by rw [htab]; rfl) (fun z hz => nomatch hz) (by decide) (by decide) (hts _ cl_L_25) (va_Nw.use rfl (hY.2.1 _ (by decide))) hc1 hc2 hc3 ?_
    refine lv_astore_n (lv' := [(3, .ref q9), (0, .ref (ad 0)), (1, .int a0), (2, .ref oa)]) hx hb dL_dropRule_12 rfl hl (by decide) rfl (fun ls hl => ?_)
    refine lv_iconst (v := 1) hx hb dL_dropRule_13 (by decide) ?_
    refine vx_ret ?_
    exact gk_rethl C0 (u := (_, _)) hw hW hO hS dL_dropRule_14
  · have hO := hO.kept (hk _ hoa (fun h => h.elim (fun ⟨k, h1, h2⟩ => hne k h1 h2) (fun h => absurd hoa (Nat.not_lt.mpr h))))
    refine lv_i2l (v := r.toInt64) hx hb dL_dropRule_7 rfl ?_
    refine gk_last hx hb hK hS (Or.inl rfl) hO dL_dropRule_8 (fun H locs hO z1 oq hS => ?_)
    have hW := hW.kept (fun k hk9 => oq _ (fun e => hne k hk9 e.symm))
    refine lv_goto (tgt := 15) hx hb dL_dropRule_9 (by decide) ?_
    refine lv_iconst (v := 0) hx hb dL_dropRule_15 (by decide) ?_
    refine vx_ret ?_
    exact gk_rethl C0 (u := (_, _)) hw hW hO hS dL_dropRule_16
def w_L_setWeighing (σ : gk_C) (o : Int64) (a0 : Int32) (Q : Int32 → gk_C → Int64 → Prop) : Prop := w_X8_setWeighing σ a0 (fun E u => (E = gk_E2 ∧ Q 1 u o)) (fun r u => Q 0 u r.toInt64)
abbrev rmL_setWeighing : Room := { frames := 8, cells := 1, slots := 6, locals := 124 }
set_option maxHeartbeats 4000000 in
set_option maxRecDepth 100000 in
theorem c_L_setWeighing (l : Launch) (hfl : l.stackTraces = false) (D : va_G) (cI cZ cG cL : ClassId) (ad : Nat → Nat) (q1 q2 q3 oa : Nat) {σ : gk_C} {o : Int64} {a0 : Int32} {Q : Int32 → gk_C → Int64 → Prop} {sz : Nat} (hw : w_L_setWeighing σ o a0 Q) : vx_Met l yL_setWeighing wsL_setWeighing rmL_setWeighing (gk_Pl D cI cZ cG cL ad q1 q2 q3 oa [.ref (ad 0), .int a0, .ref oa] sz σ o) (gk_Ql D cI cL ad oa Q sz) gk_XF 1 6 (gk_Al ad oa sz) := by
  refine vx_ofWH (cc := cL_setWeighing) (maxL := 4) (ret := (some .int)) (by decide) rfl ?_
  intro p e s m args below meth c s₁ B hml0 hv0
  obtain ⟨rfl, hsz, hW, hO, hne, hK, hY, hN⟩ := hv0
  subst hsz
  have C0 : gk_F p s m ([.ref (ad 0), .int a0, .ref oa] : List Value).toArray meth c cL_setWeighing 4 (some .int) RL := ⟨B.exec, B.bytes, hml0, findClass_of_methodNamed B.named, fun w hw => atoms_spec (ws := wsL_setWeighing) B.pre w (List.mem_cons_of_mem _ hw), B.returns, B.notSynchronized⟩
  obtain ⟨hx, hb, hml, hown, hts, hr, hlocks⟩ := id C0
  have htab := vx_table (x := yL_setWeighing) B (atoms_spec (ws := wsL_setWeighing) B.pre _ List.mem_cons_self)
  have hS : va_S (gk_Al ad oa s.heap.size) s.heap s.heap [] := va_S.rf
  have hoa := hO.lt
  have hl := lv_entry ([.ref (ad 0), .int a0, .ref oa]) (n := 4) (Nat.le_of_ble_eq_true rfl)
  rw [lg_entry_eq]
  generalize (lg_sl ([.ref (ad 0), .int a0, .ref oa]) ++ List.replicate (4 - (lg_sl ([.ref (ad 0), .int a0, .ref oa])).length) Slot.unset).toArray = ls at hl ⊢
  have hl : lv_has ls 4 [(0, .ref (ad 0)), (1, .int a0), (2, .ref oa)] := hl
  show W p l e rmL_setWeighing s m _ below meth c s.heap [] 0 0 _ _
  refine lv_aload_n hx hb dL_setWeighing_0 rfl (lv_at hl 2 rfl) ?_
  refine lv_iconst (v := 0) hx hb dL_setWeighing_1 (by decide) ?_
  refine lv_aload_n hx hb dL_setWeighing_2 rfl (lv_at hl 0 rfl) ?_
  refine lv_iload_n hx hb dL_setWeighing_3 rfl (lv_at hl 1 rfl) ?_
  refine gk_callTi ⟨hx, hb, hml, hown, hts⟩ (c_X8_setWeighing l hfl D cI cZ cG cL ad q1 q2 q3 hw) (cwV 1 hts (gk_gV ml_L_69 im_X8_setWeighing se_X8_setWeighing in_X8 co_X8_setWeighing) rfl rfl rfl (by decide +kernel) ⟨Nat.le_of_ble_eq_true rfl, Nat.le_of_ble_eq_true rfl⟩) (gk_recv hK.1 (gk_o0 hW) rfl) hW hK hY hS (fun q h => Or.inr h) rfl hl.1 (rest := [.int 0, .ref oa]) rfl (lv_room (Nat.le_of_ble_eq_true rfl)) dL_setWeighing_4 ⟨Nat.le_of_ble_eq_true rfl, Nat.le_of_ble_eq_true rfl⟩ (fun E ce q9 u H locs hT hW hk hS hc1 hc2 hc3 => ?_) (fun r u H locs hw hW hk hS => ?_)
  · have hO := hO.kept (hk _ hoa (fun h => h.elim (fun ⟨k, h1, h2⟩ => hne k h1 h2) (fun h => absurd hoa (Nat.not_lt.mpr h))))
    obtain ⟨rfl, hw⟩ := hT
    refine vx_catch hown [] ⟨0, 9, 12, 13⟩ [] (by rw [htab]; rfl) (fun z hz => nomatch hz) (by decide) (by decide) (hts _ cl_L_13) (va_Nw.use rfl (hY.2.1 _ (by decide))) hc1 hc2 hc3 ?_
    refine lv_astore_n (lv' := [(3, .ref q9), (0, .ref (ad 0)), (1, .int a0), (2, .ref oa)]) hx hb dL_setWeighing_12 rfl hl (by decide) rfl (fun ls hl => ?_)
    refine lv_iconst (v := 1) hx hb dL_setWeighing_13 (by decide) ?_
    refine vx_ret ?_
    exact gk_rethl C0 (u := (_, _)) hw hW hO hS dL_setWeighing_14
  · have hO := hO.kept (hk _ hoa (fun h => h.elim (fun ⟨k, h1, h2⟩ => hne k h1 h2) (fun h => absurd hoa (Nat.not_lt.mpr h))))
    refine lv_i2l (v := r.toInt64) hx hb dL_setWeighing_7 rfl ?_
    refine gk_last hx hb hK hS (Or.inl rfl) hO dL_setWeighing_8 (fun H locs hO z1 oq hS => ?_)
    have hW := hW.kept (fun k hk9 => oq _ (fun e => hne k hk9 e.symm))
    refine lv_goto (tgt := 15) hx hb dL_setWeighing_9 (by decide) ?_
    refine lv_iconst (v := 0) hx hb dL_setWeighing_15 (by decide) ?_
    refine vx_ret ?_
    exact gk_rethl C0 (u := (_, _)) hw hW hO hS dL_setWeighing_16
def w_L_matches (σ : gk_C) (o : Int64) (a0 : Int32) (a1 : Int32) (a2 : Int32) (a3 : Int32) (Q : Int32 → gk_C → Int64 → Prop) : Prop := w_X8_matches σ a0 a1 a2 a3 (fun E u => (E = gk_E1 ∧ Q 1 u o)) (fun r u => (¬ r = 0 → Q 0 u 1) ∧ (r = 0 → Q 0 u 0))
abbrev rmL_matches : Room := { frames := 9, cells := 2, slots := 12, locals := 166 }
set_option maxHeartbeats 4000000 in
set_option maxRecDepth 100000 in
theorem c_L_matches (l : Launch) (hfl : l.stackTraces = false) (D : va_G) (cI cZ cG cL : ClassId) (ad : Nat → Nat) (q1 q2 q3 oa : Nat) {σ : gk_C} {o : Int64} {a0 : Int32} {a1 : Int32} {a2 : Int32} {a3 : Int32} {Q : Int32 → gk_C → Int64 → Prop} {sz : Nat} (hw : w_L_matches σ o a0 a1 a2 a3 Q) : vx_Met l yL_matches wsL_matches rmL_matches (gk_Pl D cI cZ cG cL ad q1 q2 q3 oa [.ref (ad 0), .int a0, .int a1, .int a2, .int a3, .ref oa] sz σ o) (gk_Ql D cI cL ad oa Q sz) gk_XF 2 12 (gk_Al ad oa sz) := by
  refine vx_ofWH (cc := cL_matches) (maxL := 7) (ret := (some .int)) (by decide) rfl ?_
  intro p e s m args below meth c s₁ B hml0 hv0
  obtain ⟨rfl, hsz, hW, hO, hne, hK, hY, hN⟩ := hv0
  subst hsz
  have C0 : gk_F p s m ([.ref (ad 0), .int a0, .int a1, .int a2, .int a3, .ref oa] : List Value).toArray meth c cL_matches 7 (some .int) RL := ⟨B.exec, B.bytes, hml0, findClass_of_methodNamed B.named, fun w hw => atoms_spec (ws := wsL_matches) B.pre w (List.mem_cons_of_mem _ hw), B.returns, B.notSynchronized⟩
  obtain ⟨hx, hb, hml, hown, hts, hr, hlocks⟩ := id C0
  have htab := vx_table (x := yL_matches) B (atoms_spec (ws := wsL_matches) B.pre _ List.mem_cons_self)
  have hS : va_S (gk_Al ad oa s.heap.size) s.heap s.heap [] := va_S.rf
  have hoa := hO.lt
  have hl := lv_entry ([.ref (ad 0), .int a0, .int a1, .int a2, .int a3, .ref oa]) (n := 7) (Nat.le_of_ble_eq_true rfl)
  rw [lg_entry_eq]
  generalize (lg_sl ([.ref (ad 0), .int a0, .int a1, .int a2, .int a3, .ref oa]) ++ List.replicate (7 - (lg_sl ([.ref (ad 0), .int a0, .int a1, .int a2, .int a3, .ref oa])).length) Slot.unset).toArray = ls at hl ⊢
  have hl : lv_has ls 7 [(0, .ref (ad 0)), (1, .int a0), (2, .int a1), (3, .int a2), (4, .int a3), (5, .ref oa)] := hl
  show W p l e rmL_matches s m _ below meth c s.heap [] 0 0 _ _
  refine lv_aload hx hb dL_matches_0 (lv_at hl 5 rfl) ?_
  refine lv_iconst (v := 0) hx hb dL_matches_2 (by decide) ?_
  refine lv_aload_n hx hb dL_matches_3 rfl (lv_at hl 0 rfl) ?_
  refine lv_iload_n hx hb dL_matches_4 rfl (lv_at hl 1 rfl) ?_
  refine lv_iload_n hx hb dL_matches_5 rfl (lv_at hl 2 rfl) ?_
  refine lv_iload_n hx hb dL_matches_6 rfl (lv_at hl 3 rfl) ?_
  refine lv_iload hx hb dL_matches_7 (lv_at hl 4 rfl) ?_
  refine gk_callTi ⟨hx, hb, hml, hown, hts⟩ (c_X8_matches l hfl D cI cZ cG cL ad q1 q2 q3 hw) (cwV 4 hts (gk_gV ml_L_72 im_X8_matches se_X8_matches in_X8 co_X8_matches) rfl rfl rfl (by decide +kernel) ⟨Nat.le_of_ble_eq_true rfl, Nat.le_of_ble_eq_true rfl⟩) (gk_recv hK.1 (gk_o0 hW) rfl) hW hK hY hS (fun q h => Or.inr h) rfl hl.1 (rest := [.int 0, .ref oa]) rfl (lv_room (Nat.le_of_ble_eq_true rfl)) dL_matches_9 ⟨Nat.le_of_ble_eq_true rfl, Nat.le_of_ble_eq_true rfl⟩ (fun E ce q9 u H locs hT hW hk hS hc1 hc2 hc3 => ?_) (fun r u H locs hw hW hk hS => ?_)
  · have hO := hO.kept (hk _ hoa (fun h => h.elim (fun ⟨k, h1, h2⟩ => hne k h1 h2) (fun h => absurd hoa (Nat.not_lt.mpr h))))
    obtain ⟨rfl, hw⟩ := hT
    refine vx_catch hown [] ⟨0, 21, 24, 25⟩ [] (by rw [htab]; rfl) (fun z hz => nomatch hz) (by decide) (by decide) (hts _ cl_L_25) (va_Nw.use rfl (hY.2.1 _ (by decide))) hc1 hc2 hc3 ?_
    refine lv_astore (lv' := [(6, .ref q9), (0, .ref (ad 0)), (1, .int a0), (2, .int a1), (3, .int a2), (4, .int a3), (5, .ref oa)]) hx hb dL_matches_24 hl (by decide) rfl (fun ls hl => ?_)
    refine lv_iconst (v := 1) hx hb dL_matches_26 (by decide) ?_
    refine vx_ret ?_
    exact gk_rethl C0 (u := (_, _)) hw hW hO hS dL_matches_27
  · have hO := hO.kept (hk _ hoa (fun h => h.elim (fun ⟨k, h1, h2⟩ => hne k h1 h2) (fun h => absurd hoa (Nat.not_lt.mpr h))))
    refine lv_if_eq (tgt := 19) hx hb dL_matches_12 (by decide) (fun c0 => ?_) (fun c0 => ?_)
    · have hw := hw.2 c0
      refine lv_lconst (v := 0) hx hb dL_matches_19 (by decide) ?_
      refine gk_last hx hb hK hS (Or.inl rfl) hO dL_matches_20 (fun H locs hO z1 oq hS => ?_)
      have hW := hW.kept (fun k hk9 => oq _ (fun e => hne k hk9 e.symm))
      refine lv_goto (tgt := 28) hx hb dL_matches_21 (by decide) ?_
      refine lv_iconst (v := 0) hx hb dL_matches_28 (by decide) ?_
      refine vx_ret ?_
      exact gk_rethl C0 (u := (_, _)) hw hW hO hS dL_matches_29
    · have hw := hw.1 c0
      refine lv_lconst (v := 1) hx hb dL_matches_15 (by decide) ?_
      refine lv_goto (tgt := 20) hx hb dL_matches_16 (by decide) ?_
      refine gk_last hx hb hK hS (Or.inl rfl) hO dL_matches_20 (fun H locs hO z1 oq hS => ?_)
      have hW := hW.kept (fun k hk9 => oq _ (fun e => hne k hk9 e.symm))
      refine lv_goto (tgt := 28) hx hb dL_matches_21 (by decide) ?_
      refine lv_iconst (v := 0) hx hb dL_matches_28 (by decide) ?_
      refine vx_ret ?_
      exact gk_rethl C0 (u := (_, _)) hw hW hO hS dL_matches_29
def w_L_goOn (σ : gk_C) (o : Int64) (a0 : Int32) (Q : Int32 → gk_C → Int64 → Prop) : Prop := w_X8_goOn σ a0 (fun E u => (E = gk_E2 ∧ Q 1 u o)) (fun r u => Q 0 u r.toInt64)
abbrev rmL_goOn : Room := { frames := 8, cells := 1, slots := 6, locals := 123 }
set_option maxHeartbeats 4000000 in
set_option maxRecDepth 100000 in
theorem c_L_goOn (l : Launch) (hfl : l.stackTraces = false) (D : va_G) (cI cZ cG cL : ClassId) (ad : Nat → Nat) (q1 q2 q3 oa : Nat) {σ : gk_C} {o : Int64} {a0 : Int32} {Q : Int32 → gk_C → Int64 → Prop} {sz : Nat} (hw : w_L_goOn σ o a0 Q) : vx_Met l yL_goOn wsL_goOn rmL_goOn (gk_Pl D cI cZ cG cL ad q1 q2 q3 oa [.ref (ad 0), .int a0, .ref oa] sz σ o) (gk_Ql D cI cL ad oa Q sz) gk_XF 1 6 (gk_Al ad oa sz) := by
  refine vx_ofWH (cc := cL_goOn) (maxL := 4) (ret := (some .int)) (by decide) rfl ?_
  intro p e s m args below meth c s₁ B hml0 hv0
  obtain ⟨rfl, hsz, hW, hO, hne, hK, hY, hN⟩ := hv0
  subst hsz
  have C0 : gk_F p s m ([.ref (ad 0), .int a0, .ref oa] : List Value).toArray meth c cL_goOn 4 (some .int) RL := ⟨B.exec, B.bytes, hml0, findClass_of_methodNamed B.named, fun w hw => atoms_spec (ws := wsL_goOn) B.pre w (List.mem_cons_of_mem _ hw), B.returns, B.notSynchronized⟩
  obtain ⟨hx, hb, hml, hown, hts, hr, hlocks⟩ := id C0
  have htab := vx_table (x := yL_goOn) B (atoms_spec (ws := wsL_goOn) B.pre _ List.mem_cons_self)
  have hS : va_S (gk_Al ad oa s.heap.size) s.heap s.heap [] := va_S.rf
  have hoa := hO.lt
  have hl := lv_entry ([.ref (ad 0), .int a0, .ref oa]) (n := 4) (Nat.le_of_ble_eq_true rfl)
  rw [lg_entry_eq]
  generalize (lg_sl ([.ref (ad 0), .int a0, .ref oa]) ++ List.replicate (4 - (lg_sl ([.ref (ad 0), .int a0, .ref oa])).length) Slot.unset).toArray = ls at hl ⊢
  have hl : lv_has ls 4 [(0, .ref (ad 0)), (1, .int a0), (2, .ref oa)] := hl
  show W p l e rmL_goOn s m _ below meth c s.heap [] 0 0 _ _
  refine lv_aload_n hx hb dL_goOn_0 rfl (lv_at hl 2 rfl) ?_
  refine lv_iconst (v := 0) hx hb dL_goOn_1 (by decide) ?_
  refine lv_aload_n hx hb dL_goOn_2 rfl (lv_at hl 0 rfl) ?_
  refine lv_iload_n hx hb dL_goOn_3 rfl (lv_at hl 1 rfl) ?_
  refine gk_callTi ⟨hx, hb, hml, hown, hts⟩ (c_X8_goOn l hfl D cI cZ cG cL ad q1 q2 q3 hw) (cwV 1 hts (gk_gV ml_L_76 im_X8_goOn se_X8_goOn in_X8 co_X8_goOn) rfl rfl rfl (by decide +kernel) ⟨Nat.le_of_ble_eq_true rfl, Nat.le_of_ble_eq_true rfl⟩) (gk_recv hK.1 (gk_o0 hW) rfl) hW hK hY hS (fun q h => Or.inr h) rfl hl.1 (rest := [.int 0, .ref oa]) rfl (lv_room (Nat.le_of_ble_eq_true rfl)) dL_goOn_4 ⟨Nat.le_of_ble_eq_true rfl, Nat.le_of_ble_eq_true rfl⟩ (fun E ce q9 u H locs hT hW hk hS hc1 hc2 hc3 => ?_) (fun r u H locs hw hW hk hS => ?_)
  · have hO := hO.kept (hk _ hoa (fun h => h.elim (fun ⟨k, h1, h2⟩ => hne k h1 h2) (fun h => absurd hoa (Nat.not_lt.mpr h))))
    obtain ⟨rfl, hw⟩ := hT
    refine vx_catch hown [] ⟨0, 9, 12, 13⟩ [] (by rw [htab]; rfl) (fun z hz => nomatch hz) (by decide) (by decide) (hts _ cl_L_13) (va_Nw.use rfl (hY.2.1 _ (by decide))) hc1 hc2 hc3 ?_
    refine lv_astore_n (lv' := [(3, .ref q9), (0, .ref (ad 0)), (1, .int a0), (2, .ref oa)]) hx hb dL_goOn_12 rfl hl (by decide) rfl (fun ls hl => ?_)
    refine lv_iconst (v := 1) hx hb dL_goOn_13 (by decide) ?_
    refine vx_ret ?_
    exact gk_rethl C0 (u := (_, _)) hw hW hO hS dL_goOn_14
  · have hO := hO.kept (hk _ hoa (fun h => h.elim (fun ⟨k, h1, h2⟩ => hne k h1 h2) (fun h => absurd hoa (Nat.not_lt.mpr h))))
    refine lv_i2l (v := r.toInt64) hx hb dL_goOn_7 rfl ?_
    refine gk_last hx hb hK hS (Or.inl rfl) hO dL_goOn_8 (fun H locs hO z1 oq hS => ?_)
    have hW := hW.kept (fun k hk9 => oq _ (fun e => hne k hk9 e.symm))
    refine lv_goto (tgt := 15) hx hb dL_goOn_9 (by decide) ?_
    refine lv_iconst (v := 0) hx hb dL_goOn_15 (by decide) ?_
    refine vx_ret ?_
    exact gk_rethl C0 (u := (_, _)) hw hW hO hS dL_goOn_16
def w_L_grant (σ : gk_C) (o : Int64) (a0 : Int32) (a1 : Int32) (a2 : Int32) (a3 : Int32) (a4 : Int32) (a5 : Int32) (Q : Int32 → gk_C → Int64 → Prop) : Prop := w_X8_grant σ a0 a1 a2 a3 a4 a5 (fun E u => (E = gk_E1 ∧ Q 1 u o) ∨ (E = gk_E2 ∧ Q 2 u o) ∨ (E = gk_E3 ∧ Q 3 u o)) (fun r u => Q 0 u r.toInt64)
abbrev rmL_grant : Room := { frames := 8, cells := 3, slots := 18, locals := 128 }
set_option maxHeartbeats 4000000 in
set_option maxRecDepth 100000 in
theorem c_L_grant (l : Launch) (hfl : l.stackTraces = false) (D : va_G) (cI cZ cG cL : ClassId) (ad : Nat → Nat) (q1 q2 q3 oa : Nat) {σ : gk_C} {o : Int64} {a0 : Int32} {a1 : Int32} {a2 : Int32} {a3 : Int32} {a4 : Int32} {a5 : Int32} {Q : Int32 → gk_C → Int64 → Prop} {sz : Nat} (hw : w_L_grant σ o a0 a1 a2 a3 a4 a5 Q) : vx_Met l yL_grant wsL_grant rmL_grant (gk_Pl D cI cZ cG cL ad q1 q2 q3 oa [.ref (ad 0), .int a0, .int a1, .int a2, .int a3, .int a4, .int a5, .ref oa] sz σ o) (gk_Ql D cI cL ad oa Q sz) gk_XF 3 18 (gk_Al ad oa sz) := by
  refine vx_ofWH (cc := cL_grant) (maxL := 9) (ret := (some .int)) (by decide) rfl ?_
  intro p e s m args below meth c s₁ B hml0 hv0
  obtain ⟨rfl, hsz, hW, hO, hne, hK, hY, hN⟩ := hv0
  subst hsz
  have C0 : gk_F p s m ([.ref (ad 0), .int a0, .int a1, .int a2, .int a3, .int a4, .int a5, .ref oa] : List Value).toArray meth c cL_grant 9 (some .int) RL := ⟨B.exec, B.bytes, hml0, findClass_of_methodNamed B.named, fun w hw => atoms_spec (ws := wsL_grant) B.pre w (List.mem_cons_of_mem _ hw), B.returns, B.notSynchronized⟩
  obtain ⟨hx, hb, hml, hown, hts, hr, hlocks⟩ := id C0
  have htab := vx_table (x := yL_grant) B (atoms_spec (ws := wsL_grant) B.pre _ List.mem_cons_self)
  have hS : va_S (gk_Al ad oa s.heap.size) s.heap s.heap [] := va_S.rf
  have hoa := hO.lt
  have hl := lv_entry ([.ref (ad 0), .int a0, .int a1, .int a2, .int a3, .int a4, .int a5, .ref oa]) (n := 9) (Nat.le_of_ble_eq_true rfl)
  rw [lg_entry_eq]
  generalize (lg_sl ([.ref (ad 0), .int a0, .int a1, .int a2, .int a3, .int a4, .int a5, .ref oa]) ++ List.replicate (9 - (lg_sl ([.ref (ad 0), .int a0, .int a1, .int a2, .int a3, .int a4, .int a5, .ref oa])).length) Slot.unset).toArray = ls at hl ⊢
  have hl : lv_has ls 9 [(0, .ref (ad 0)), (1, .int a0), (2, .int a1), (3, .int a2), (4, .int a3), (5, .int a4), (6, .int a5), (7, .ref oa)] := hl
  show W p l e rmL_grant s m _ below meth c s.heap [] 0 0 _ _
  refine lv_aload hx hb dL_grant_0 (lv_at hl 7 rfl) ?_
  refine lv_iconst (v := 0) hx hb dL_grant_2 (by decide) ?_
  refine lv_aload_n hx hb dL_grant_3 rfl (lv_at hl 0 rfl) ?_
  refine lv_iload_n hx hb dL_grant_4 rfl (lv_at hl 1 rfl) ?_
  refine lv_iload_n hx hb dL_grant_5 rfl (lv_at hl 2 rfl) ?_
  refine lv_iload_n hx hb dL_grant_6 rfl (lv_at hl 3 rfl) ?_
  refine lv_iload hx hb dL_grant_7 (lv_at hl 4 rfl) ?_
  refine lv_iload hx hb dL_grant_9 (lv_at hl 5 rfl) ?_
  refine lv_iload hx hb dL_grant_11 (lv_at hl 6 rfl) ?_
  refine gk_callTi ⟨hx, hb, hml, hown, hts⟩ (c_X8_grant l hfl D cI cZ cG cL ad q1 q2 q3 hw) (cwV 6 hts (gk_gV ml_L_79 im_X8_grant se_X8_grant in_X8 co_X8_grant) rfl rfl rfl (by decide +kernel) ⟨Nat.le_of_ble_eq_true rfl, Nat.le_of_ble_eq_true rfl⟩) (gk_recv hK.1 (gk_o0 hW) rfl) hW hK hY hS (fun q h => Or.inr h) rfl hl.1 (rest := [.int 0, .ref oa]) rfl (lv_room (Nat.le_of_ble_eq_true rfl)) dL_grant_13 ⟨Nat.le_of_ble_eq_true rfl, Nat.le_of_ble_eq_true rfl⟩ (fun E ce q9 u H locs hT hW hk hS hc1 hc2 hc3 => ?_) (fun r u H locs hw hW hk hS => ?_)
  · have hO := hO.kept (hk _ hoa (fun h => h.elim (fun ⟨k, h1, h2⟩ => hne k h1 h2) (fun h => absurd hoa (Nat.not_lt.mpr h))))
    rcases hT with ⟨rfl, hw⟩ | ⟨rfl, hw⟩ | ⟨rfl, hw⟩
    · refine vx_catch hown [] ⟨0, 18, 21, 25⟩ [⟨0, 18, 25, 13⟩, ⟨0, 18, 29, 15⟩] (by rw [htab]; rfl) (fun z hz => nomatch hz) (by decide) (by decide) (hts _ cl_L_25) (va_Nw.use rfl (hY.2.1 _ (by decide))) hc1 hc2 hc3 ?_
      refine lv_astore (lv' := [(8, .ref q9), (0, .ref (ad 0)), (1, .int a0), (2, .int a1), (3, .int a2), (4, .int a3), (5, .int a4), (6, .int a5), (7, .ref oa)]) hx hb dL_grant_21 hl (by decide) rfl (fun ls hl => ?_)
      refine lv_iconst (v := 1) hx hb dL_grant_23 (by decide) ?_
      refine vx_ret ?_
      exact gk_rethl C0 (u := (_, _)) hw hW hO hS dL_grant_24
    · have hp : ∀ z ∈ ([⟨0, 18, 21, 25⟩] : List ExceptionTableEntry), covers z 13 = false ∨ (z.catchType ≠ 0 ∧ ∃ nm : String, (Cond.classLink RL z.catchType nm).before ([.ref (ad 0), .int a0, .int a1, .int a2, .int a3, .int a4, .int a5, .ref oa] : List Value).toArray s = true ∧ va_Nc gk_E2 nm s) := by
        intro z hz
        simp only [List.mem_cons, List.not_mem_nil, or_false] at hz
        subst hz
        exact Or.inr ⟨by decide, gk_E1, hts _ cl_L_25, hN.2.2.1⟩
      refine vx_catch hown [⟨0, 18, 21, 25⟩] ⟨0, 18, 25, 13⟩ [⟨0, 18, 29, 15⟩] (by rw [htab]; rfl) hp (by decide) (by decide) (hts _ cl_L_13) (va_Nw.use rfl (hY.2.1 _ (by decide))) hc1 hc2 hc3 ?_
      refine lv_astore (lv' := [(8, .ref q9), (0, .ref (ad 0)), (1, .int a0), (2, .int a1), (3, .int a2), (4, .int a3), (5, .int a4), (6, .int a5), (7, .ref oa)]) hx hb dL_grant_25 hl (by decide) rfl (fun ls hl => ?_)
      refine lv_iconst (v := 2) hx hb dL_grant_27 (by decide) ?_
      refine vx_ret ?_
      exact gk_rethl C0 (u := (_, _)) hw hW hO hS dL_grant_28
    · have hp : ∀ z ∈ ([⟨0, 18, 21, 25⟩, ⟨0, 18, 25, 13⟩] : List ExceptionTableEntry), covers z 13 = false ∨ (z.catchType ≠ 0 ∧ ∃ nm : String, (Cond.classLink RL z.catchType nm).before ([.ref (ad 0), .int a0, .int a1, .int a2, .int a3, .int a4, .int a5, .ref oa] : List Value).toArray s = true ∧ va_Nc gk_E3 nm s) := by
        intro z hz
        simp only [List.mem_cons, List.not_mem_nil, or_false] at hz
        rcases hz with rfl | rfl
        · exact Or.inr ⟨by decide, gk_E1, hts _ cl_L_25, hN.2.2.2.2.1⟩
        · exact Or.inr ⟨by decide, gk_E2, hts _ cl_L_13, hN.2.2.2.2.2⟩
      refine vx_catch hown [⟨0, 18, 21, 25⟩, ⟨0, 18, 25, 13⟩] ⟨0, 18, 29, 15⟩ [] (by rw [htab]; rfl) hp (by decide) (by decide) (hts _ cl_L_15) (va_Nw.use rfl (hY.2.1 _ (by decide))) hc1 hc2 hc3 ?_
      refine lv_astore (lv' := [(8, .ref q9), (0, .ref (ad 0)), (1, .int a0), (2, .int a1), (3, .int a2), (4, .int a3), (5, .int a4), (6, .int a5), (7, .ref oa)]) hx hb dL_grant_29 hl (by decide) rfl (fun ls hl => ?_)
      refine lv_iconst (v := 3) hx hb dL_grant_31 (by decide) ?_
      refine vx_ret ?_
      exact gk_rethl C0 (u := (_, _)) hw hW hO hS dL_grant_32
  · have hO := hO.kept (hk _ hoa (fun h => h.elim (fun ⟨k, h1, h2⟩ => hne k h1 h2) (fun h => absurd hoa (Nat.not_lt.mpr h))))
    refine lv_i2l (v := r.toInt64) hx hb dL_grant_16 rfl ?_
    refine gk_last hx hb hK hS (Or.inl rfl) hO dL_grant_17 (fun H locs hO z1 oq hS => ?_)
    have hW := hW.kept (fun k hk9 => oq _ (fun e => hne k hk9 e.symm))
    refine lv_goto (tgt := 33) hx hb dL_grant_18 (by decide) ?_
    refine lv_iconst (v := 0) hx hb dL_grant_33 (by decide) ?_
    refine vx_ret ?_
    exact gk_rethl C0 (u := (_, _)) hw hW hO hS dL_grant_34
def w_L_revoke (σ : gk_C) (o : Int64) (a0 : Int32) (Q : Int32 → gk_C → Int64 → Prop) : Prop := w_X8_revoke σ a0 (fun E u => (E = gk_E1 ∧ Q 1 u o)) (fun r u => (¬ r = 0 → Q 0 u 1) ∧ (r = 0 → Q 0 u 0))
abbrev rmL_revoke : Room := { frames := 8, cells := 1, slots := 6, locals := 124 }
set_option maxHeartbeats 4000000 in
set_option maxRecDepth 100000 in
theorem c_L_revoke (l : Launch) (hfl : l.stackTraces = false) (D : va_G) (cI cZ cG cL : ClassId) (ad : Nat → Nat) (q1 q2 q3 oa : Nat) {σ : gk_C} {o : Int64} {a0 : Int32} {Q : Int32 → gk_C → Int64 → Prop} {sz : Nat} (hw : w_L_revoke σ o a0 Q) : vx_Met l yL_revoke wsL_revoke rmL_revoke (gk_Pl D cI cZ cG cL ad q1 q2 q3 oa [.ref (ad 0), .int a0, .ref oa] sz σ o) (gk_Ql D cI cL ad oa Q sz) gk_XF 1 6 (gk_Al ad oa sz) := by
  refine vx_ofWH (cc := cL_revoke) (maxL := 4) (ret := (some .int)) (by decide) rfl ?_
  intro p e s m args below meth c s₁ B hml0 hv0
  obtain ⟨rfl, hsz, hW, hO, hne, hK, hY, hN⟩ := hv0
  subst hsz
  have C0 : gk_F p s m ([.ref (ad 0), .int a0, .ref oa] : List Value).toArray meth c cL_revoke 4 (some .int) RL := ⟨B.exec, B.bytes, hml0, findClass_of_methodNamed B.named, fun w hw => atoms_spec (ws := wsL_revoke) B.pre w (List.mem_cons_of_mem _ hw), B.returns, B.notSynchronized⟩
  obtain ⟨hx, hb, hml, hown, hts, hr, hlocks⟩ := id C0
  have htab := vx_table (x := yL_revoke) B (atoms_spec (ws := wsL_revoke) B.pre _ List.mem_cons_self)
  have hS : va_S (gk_Al ad oa s.heap.size) s.heap s.heap [] := va_S.rf
  have hoa := hO.lt
  have hl := lv_entry ([.ref (ad 0), .int a0, .ref oa]) (n := 4) (Nat.le_of_ble_eq_true rfl)
  rw [lg_entry_eq]
  generalize (lg_sl ([.ref (ad 0), .int a0, .ref oa]) ++ List.replicate (4 - (lg_sl ([.ref (ad 0), .int a0, .ref oa])).length) Slot.unset).toArray = ls at hl ⊢
  have hl : lv_has ls 4 [(0, .ref (ad 0)), (1, .int a0), (2, .ref oa)] := hl
  show W p l e rmL_revoke s m _ below meth c s.heap [] 0 0 _ _
  refine lv_aload_n hx hb dL_revoke_0 rfl (lv_at hl 2 rfl) ?_
  refine lv_iconst (v := 0) hx hb dL_revoke_1 (by decide) ?_
  refine lv_aload_n hx hb dL_revoke_2 rfl (lv_at hl 0 rfl) ?_
  refine lv_iload_n hx hb dL_revoke_3 rfl (lv_at hl 1 rfl) ?_
  refine gk_callTi ⟨hx, hb, hml, hown, hts⟩ (c_X8_revoke l hfl D cI cZ cG cL ad q1 q2 q3 hw) (cwV 1 hts (gk_gV ml_L_83 im_X8_revoke se_X8_revoke in_X8 co_X8_revoke) rfl rfl rfl (by decide +kernel) ⟨Nat.le_of_ble_eq_true rfl, Nat.le_of_ble_eq_true rfl⟩) (gk_recv hK.1 (gk_o0 hW) rfl) hW hK hY hS (fun q h => Or.inr h) rfl hl.1 (rest := [.int 0, .ref oa]) rfl (lv_room (Nat.le_of_ble_eq_true rfl)) dL_revoke_4 ⟨Nat.le_of_ble_eq_true rfl, Nat.le_of_ble_eq_true rfl⟩ (fun E ce q9 u H locs hT hW hk hS hc1 hc2 hc3 => ?_) (fun r u H locs hw hW hk hS => ?_)
  · have hO := hO.kept (hk _ hoa (fun h => h.elim (fun ⟨k, h1, h2⟩ => hne k h1 h2) (fun h => absurd hoa (Nat.not_lt.mpr h))))
    obtain ⟨rfl, hw⟩ := hT
    refine vx_catch hown [] ⟨0, 16, 19, 25⟩ [] (by rw [htab]; rfl) (fun z hz => nomatch hz) (by decide) (by decide) (hts _ cl_L_25) (va_Nw.use rfl (hY.2.1 _ (by decide))) hc1 hc2 hc3 ?_
    refine lv_astore_n (lv' := [(3, .ref q9), (0, .ref (ad 0)), (1, .int a0), (2, .ref oa)]) hx hb dL_revoke_19 rfl hl (by decide) rfl (fun ls hl => ?_)
    refine lv_iconst (v := 1) hx hb dL_revoke_20 (by decide) ?_
    refine vx_ret ?_
    exact gk_rethl C0 (u := (_, _)) hw hW hO hS dL_revoke_21
  · have hO := hO.kept (hk _ hoa (fun h => h.elim (fun ⟨k, h1, h2⟩ => hne k h1 h2) (fun h => absurd hoa (Nat.not_lt.mpr h))))
    refine lv_if_eq (tgt := 14) hx hb dL_revoke_7 (by decide) (fun c0 => ?_) (fun c0 => ?_)
    · have hw := hw.2 c0
      refine lv_lconst (v := 0) hx hb dL_revoke_14 (by decide) ?_
      refine gk_last hx hb hK hS (Or.inl rfl) hO dL_revoke_15 (fun H locs hO z1 oq hS => ?_)
      have hW := hW.kept (fun k hk9 => oq _ (fun e => hne k hk9 e.symm))
      refine lv_goto (tgt := 22) hx hb dL_revoke_16 (by decide) ?_
      refine lv_iconst (v := 0) hx hb dL_revoke_22 (by decide) ?_
      refine vx_ret ?_
      exact gk_rethl C0 (u := (_, _)) hw hW hO hS dL_revoke_23
    · have hw := hw.1 c0
      refine lv_lconst (v := 1) hx hb dL_revoke_10 (by decide) ?_
      refine lv_goto (tgt := 15) hx hb dL_revoke_11 (by decide) ?_
      refine gk_last hx hb hK hS (Or.inl rfl) hO dL_revoke_15 (fun H locs hO z1 oq hS => ?_)
      have hW := hW.kept (fun k hk9 => oq _ (fun e => hne k hk9 e.symm))
      refine lv_goto (tgt := 22) hx hb dL_revoke_16 (by decide) ?_
      refine lv_iconst (v := 0) hx hb dL_revoke_22 (by decide) ?_
      refine vx_ret ?_
      exact gk_rethl C0 (u := (_, _)) hw hW hO hS dL_revoke_23
def w_L_isGood (σ : gk_C) (o : Int64) (a0 : Int32) (Q : Int32 → gk_C → Int64 → Prop) : Prop := w_X8_isGood σ a0 (fun E u => (E = gk_E1 ∧ Q 1 u o)) (fun r u => (¬ r = 0 → Q 0 u 1) ∧ (r = 0 → Q 0 u 0))
abbrev rmL_isGood : Room := { frames := 8, cells := 1, slots := 6, locals := 163 }
set_option maxHeartbeats 4000000 in
set_option maxRecDepth 100000 in
theorem c_L_isGood (l : Launch) (hfl : l.stackTraces = false) (D : va_G) (cI cZ cG cL : ClassId) (ad : Nat → Nat) (q1 q2 q3 oa : Nat) {σ : gk_C} {o : Int64} {a0 : Int32} {Q : Int32 → gk_C → Int64 → Prop} {sz : Nat} (hw : w_L_isGood σ o a0 Q) : vx_Met l yL_isGood wsL_isGood rmL_isGood (gk_Pl D cI cZ cG cL ad q1 q2 q3 oa [.ref (ad 0), .int a0, .ref oa] sz σ o) (gk_Ql D cI cL ad oa Q sz) gk_XF 1 6 (gk_Al ad oa sz) := by
  refine vx_ofWH (cc := cL_isGood) (maxL := 4) (ret := (some .int)) (by decide) rfl ?_
  intro p e s m args below meth c s₁ B hml0 hv0
  obtain ⟨rfl, hsz, hW, hO, hne, hK, hY, hN⟩ := hv0
  subst hsz
  have C0 : gk_F p s m ([.ref (ad 0), .int a0, .ref oa] : List Value).toArray meth c cL_isGood 4 (some .int) RL := ⟨B.exec, B.bytes, hml0, findClass_of_methodNamed B.named, fun w hw => atoms_spec (ws := wsL_isGood) B.pre w (List.mem_cons_of_mem _ hw), B.returns, B.notSynchronized⟩
  obtain ⟨hx, hb, hml, hown, hts, hr, hlocks⟩ := id C0
  have htab := vx_table (x := yL_isGood) B (atoms_spec (ws := wsL_isGood) B.pre _ List.mem_cons_self)
  have hS : va_S (gk_Al ad oa s.heap.size) s.heap s.heap [] := va_S.rf
  have hoa := hO.lt
  have hl := lv_entry ([.ref (ad 0), .int a0, .ref oa]) (n := 4) (Nat.le_of_ble_eq_true rfl)
  rw [lg_entry_eq]
  generalize (lg_sl ([.ref (ad 0), .int a0, .ref oa]) ++ List.replicate (4 - (lg_sl ([.ref (ad 0), .int a0, .ref oa])).length) Slot.unset).toArray = ls at hl ⊢
  have hl : lv_has ls 4 [(0, .ref (ad 0)), (1, .int a0), (2, .ref oa)] := hl
  show W p l e rmL_isGood s m _ below meth c s.heap [] 0 0 _ _
  refine lv_aload_n hx hb dL_isGood_0 rfl (lv_at hl 2 rfl) ?_
  refine lv_iconst (v := 0) hx hb dL_isGood_1 (by decide) ?_
  refine lv_aload_n hx hb dL_isGood_2 rfl (lv_at hl 0 rfl) ?_
  refine lv_iload_n hx hb dL_isGood_3 rfl (lv_at hl 1 rfl) ?_
  refine gk_callTi ⟨hx, hb, hml, hown, hts⟩ (c_X8_isGood l hfl D cI cZ cG cL ad q1 q2 q3 hw) (cwV 1 hts (gk_gV ml_L_87 im_X8_isGood se_X8_isGood in_X8 co_X8_isGood) rfl rfl rfl (by decide +kernel) ⟨Nat.le_of_ble_eq_true rfl, Nat.le_of_ble_eq_true rfl⟩) (gk_recv hK.1 (gk_o0 hW) rfl) hW hK hY hS (fun q h => Or.inr h) rfl hl.1 (rest := [.int 0, .ref oa]) rfl (lv_room (Nat.le_of_ble_eq_true rfl)) dL_isGood_4 ⟨Nat.le_of_ble_eq_true rfl, Nat.le_of_ble_eq_true rfl⟩ (fun E ce q9 u H locs hT hW hk hS hc1 hc2 hc3 => ?_) (fun r u H locs hw hW hk hS => ?_)
  · have hO := hO.kept (hk _ hoa (fun h => h.elim (fun ⟨k, h1, h2⟩ => hne k h1 h2) (fun h => absurd hoa (Nat.not_lt.mpr h))))
    obtain ⟨rfl, hw⟩ := hT
    refine vx_catch hown [] ⟨0, 16, 19, 25⟩ [] (by rw [htab]; rfl) (fun z hz => nomatch hz) (by decide) (by decide) (hts _ cl_L_25) (va_Nw.use rfl (hY.2.1 _ (by decide))) hc1 hc2 hc3 ?_
    refine lv_astore_n (lv' := [(3, .ref q9), (0, .ref (ad 0)), (1, .int a0), (2, .ref oa)]) hx hb dL_isGood_19 rfl hl (by decide) rfl (fun ls hl => ?_)
    refine lv_iconst (v := 1) hx hb dL_isGood_20 (by decide) ?_
    refine vx_ret ?_
    exact gk_rethl C0 (u := (_, _)) hw hW hO hS dL_isGood_21
  · have hO := hO.kept (hk _ hoa (fun h => h.elim (fun ⟨k, h1, h2⟩ => hne k h1 h2) (fun h => absurd hoa (Nat.not_lt.mpr h))))
    refine lv_if_eq (tgt := 14) hx hb dL_isGood_7 (by decide) (fun c0 => ?_) (fun c0 => ?_)
    · have hw := hw.2 c0
      refine lv_lconst (v := 0) hx hb dL_isGood_14 (by decide) ?_
      refine gk_last hx hb hK hS (Or.inl rfl) hO dL_isGood_15 (fun H locs hO z1 oq hS => ?_)
      have hW := hW.kept (fun k hk9 => oq _ (fun e => hne k hk9 e.symm))
      refine lv_goto (tgt := 22) hx hb dL_isGood_16 (by decide) ?_
      refine lv_iconst (v := 0) hx hb dL_isGood_22 (by decide) ?_
      refine vx_ret ?_
      exact gk_rethl C0 (u := (_, _)) hw hW hO hS dL_isGood_23
    · have hw := hw.1 c0
      refine lv_lconst (v := 1) hx hb dL_isGood_10 (by decide) ?_
      refine lv_goto (tgt := 15) hx hb dL_isGood_11 (by decide) ?_
      refine gk_last hx hb hK hS (Or.inl rfl) hO dL_isGood_15 (fun H locs hO z1 oq hS => ?_)
      have hW := hW.kept (fun k hk9 => oq _ (fun e => hne k hk9 e.symm))
      refine lv_goto (tgt := 22) hx hb dL_isGood_16 (by decide) ?_
      refine lv_iconst (v := 0) hx hb dL_isGood_22 (by decide) ?_
      refine vx_ret ?_
      exact gk_rethl C0 (u := (_, _)) hw hW hO hS dL_isGood_23
def w_L_decide (σ : gk_C) (o : Int64) (a0 : Int32) (a1 : Int32) (a2 : Int32) (Q : Int32 → gk_C → Int64 → Prop) : Prop := w_X8_decide σ a0 a1 a2 (fun E u => (E = gk_E1 ∧ Q 1 u o)) (fun r u => Q 0 u r.toInt64)
abbrev rmL_decide : Room := { frames := 9, cells := 1, slots := 6, locals := 165 }
set_option maxHeartbeats 4000000 in
set_option maxRecDepth 100000 in
theorem c_L_decide (l : Launch) (hfl : l.stackTraces = false) (D : va_G) (cI cZ cG cL : ClassId) (ad : Nat → Nat) (q1 q2 q3 oa : Nat) {σ : gk_C} {o : Int64} {a0 : Int32} {a1 : Int32} {a2 : Int32} {Q : Int32 → gk_C → Int64 → Prop} {sz : Nat} (hw : w_L_decide σ o a0 a1 a2 Q) : vx_Met l yL_decide wsL_decide rmL_decide (gk_Pl D cI cZ cG cL ad q1 q2 q3 oa [.ref (ad 0), .int a0, .int a1, .int a2, .ref oa] sz σ o) (gk_Ql D cI cL ad oa Q sz) gk_XF 1 6 (gk_Al ad oa sz) := by
  refine vx_ofWH (cc := cL_decide) (maxL := 6) (ret := (some .int)) (by decide) rfl ?_
  intro p e s m args below meth c s₁ B hml0 hv0
  obtain ⟨rfl, hsz, hW, hO, hne, hK, hY, hN⟩ := hv0
  subst hsz
  have C0 : gk_F p s m ([.ref (ad 0), .int a0, .int a1, .int a2, .ref oa] : List Value).toArray meth c cL_decide 6 (some .int) RL := ⟨B.exec, B.bytes, hml0, findClass_of_methodNamed B.named, fun w hw => atoms_spec (ws := wsL_decide) B.pre w (List.mem_cons_of_mem _ hw), B.returns, B.notSynchronized⟩
  obtain ⟨hx, hb, hml, hown, hts, hr, hlocks⟩ := id C0
  have htab := vx_table (x := yL_decide) B (atoms_spec (ws := wsL_decide) B.pre _ List.mem_cons_self)
  have hS : va_S (gk_Al ad oa s.heap.size) s.heap s.heap [] := va_S.rf
  have hoa := hO.lt
  have hl := lv_entry ([.ref (ad 0), .int a0, .int a1, .int a2, .ref oa]) (n := 6) (Nat.le_of_ble_eq_true rfl)
  rw [lg_entry_eq]
  generalize (lg_sl ([.ref (ad 0), .int a0, .int a1, .int a2, .ref oa]) ++ List.replicate (6 - (lg_sl ([.ref (ad 0), .int a0, .int a1, .int a2, .ref oa])).length) Slot.unset).toArray = ls at hl ⊢
  have hl : lv_has ls 6 [(0, .ref (ad 0)), (1, .int a0), (2, .int a1), (3, .int a2), (4, .ref oa)] := hl
  show W p l e rmL_decide s m _ below meth c s.heap [] 0 0 _ _
  refine lv_aload hx hb dL_decide_0 (lv_at hl 4 rfl) ?_
  refine lv_iconst (v := 0) hx hb dL_decide_2 (by decide) ?_
  refine lv_aload_n hx hb dL_decide_3 rfl (lv_at hl 0 rfl) ?_
  refine lv_iload_n hx hb dL_decide_4 rfl (lv_at hl 1 rfl) ?_
  refine lv_iload_n hx hb dL_decide_5 rfl (lv_at hl 2 rfl) ?_
  refine lv_iload_n hx hb dL_decide_6 rfl (lv_at hl 3 rfl) ?_
  refine gk_callTi ⟨hx, hb, hml, hown, hts⟩ (c_X8_decide l hfl D cI cZ cG cL ad q1 q2 q3 hw) (cwV 3 hts (gk_gV ml_L_90 im_X8_decide se_X8_decide in_X8 co_X8_decide) rfl rfl rfl (by decide +kernel) ⟨Nat.le_of_ble_eq_true rfl, Nat.le_of_ble_eq_true rfl⟩) (gk_recv hK.1 (gk_o0 hW) rfl) hW hK hY hS (fun q h => Or.inr h) rfl hl.1 (rest := [.int 0, .ref oa]) rfl (lv_room (Nat.le_of_ble_eq_true rfl)) dL_decide_7 ⟨Nat.le_of_ble_eq_true rfl, Nat.le_of_ble_eq_true rfl⟩ (fun E ce q9 u H locs hT hW hk hS hc1 hc2 hc3 => ?_) (fun r u H locs hw hW hk hS => ?_)
  · have hO := hO.kept (hk _ hoa (fun h => h.elim (fun ⟨k, h1, h2⟩ => hne k h1 h2) (fun h => absurd hoa (Nat.not_lt.mpr h))))
    obtain ⟨rfl, hw⟩ := hT
    refine vx_catch hown [] ⟨0, 12, 15, 25⟩ [] (by rw [htab]; rfl) (fun z hz => nomatch hz) (by decide) (by decide) (hts _ cl_L_25) (va_Nw.use rfl (hY.2.1 _ (by decide))) hc1 hc2 hc3 ?_
    refine lv_astore (lv' := [(5, .ref q9), (0, .ref (ad 0)), (1, .int a0), (2, .int a1), (3, .int a2), (4, .ref oa)]) hx hb dL_decide_15 hl (by decide) rfl (fun ls hl => ?_)
    refine lv_iconst (v := 1) hx hb dL_decide_17 (by decide) ?_
    refine vx_ret ?_
    exact gk_rethl C0 (u := (_, _)) hw hW hO hS dL_decide_18
  · have hO := hO.kept (hk _ hoa (fun h => h.elim (fun ⟨k, h1, h2⟩ => hne k h1 h2) (fun h => absurd hoa (Nat.not_lt.mpr h))))
    refine lv_i2l (v := r.toInt64) hx hb dL_decide_10 rfl ?_
    refine gk_last hx hb hK hS (Or.inl rfl) hO dL_decide_11 (fun H locs hO z1 oq hS => ?_)
    have hW := hW.kept (fun k hk9 => oq _ (fun e => hne k hk9 e.symm))
    refine lv_goto (tgt := 19) hx hb dL_decide_12 (by decide) ?_
    refine lv_iconst (v := 0) hx hb dL_decide_19 (by decide) ?_
    refine vx_ret ?_
    exact gk_rethl C0 (u := (_, _)) hw hW hO hS dL_decide_20
def w_L_why (σ : gk_C) (o : Int64) (a0 : Int32) (a1 : Int32) (a2 : Int32) (Q : Int32 → gk_C → Int64 → Prop) : Prop := w_X8_why σ a0 a1 a2 (fun E u => (E = gk_E1 ∧ Q 1 u o)) (fun r u => Q 0 u r.toInt64)
abbrev rmL_why : Room := { frames := 9, cells := 1, slots := 6, locals := 165 }
set_option maxHeartbeats 4000000 in
set_option maxRecDepth 100000 in
theorem c_L_why (l : Launch) (hfl : l.stackTraces = false) (D : va_G) (cI cZ cG cL : ClassId) (ad : Nat → Nat) (q1 q2 q3 oa : Nat) {σ : gk_C} {o : Int64} {a0 : Int32} {a1 : Int32} {a2 : Int32} {Q : Int32 → gk_C → Int64 → Prop} {sz : Nat} (hw : w_L_why σ o a0 a1 a2 Q) : vx_Met l yL_why wsL_why rmL_why (gk_Pl D cI cZ cG cL ad q1 q2 q3 oa [.ref (ad 0), .int a0, .int a1, .int a2, .ref oa] sz σ o) (gk_Ql D cI cL ad oa Q sz) gk_XF 1 6 (gk_Al ad oa sz) := by
  refine vx_ofWH (cc := cL_why) (maxL := 6) (ret := (some .int)) (by decide) rfl ?_
  intro p e s m args below meth c s₁ B hml0 hv0
  obtain ⟨rfl, hsz, hW, hO, hne, hK, hY, hN⟩ := hv0
  subst hsz
  have C0 : gk_F p s m ([.ref (ad 0), .int a0, .int a1, .int a2, .ref oa] : List Value).toArray meth c cL_why 6 (some .int) RL := ⟨B.exec, B.bytes, hml0, findClass_of_methodNamed B.named, fun w hw => atoms_spec (ws := wsL_why) B.pre w (List.mem_cons_of_mem _ hw), B.returns, B.notSynchronized⟩
  obtain ⟨hx, hb, hml, hown, hts, hr, hlocks⟩ := id C0
  have htab := vx_table (x := yL_why) B (atoms_spec (ws := wsL_why) B.pre _ List.mem_cons_self)
  have hS : va_S (gk_Al ad oa s.heap.size) s.heap s.heap [] := va_S.rf
  have hoa := hO.lt
  have hl := lv_entry ([.ref (ad 0), .int a0, .int a1, .int a2, .ref oa]) (n := 6) (Nat.le_of_ble_eq_true rfl)
  rw [lg_entry_eq]
  generalize (lg_sl ([.ref (ad 0), .int a0, .int a1, .int a2, .ref oa]) ++ List.replicate (6 - (lg_sl ([.ref (ad 0), .int a0, .int a1, .int a2, .ref oa])).length) Slot.unset).toArray = ls at hl ⊢
  have hl : lv_has ls 6 [(0, .ref (ad 0)), (1, .int a0), (2, .int a1), (3, .int a2), (4, .ref oa)] := hl
  show W p l e rmL_why s m _ below meth c s.heap [] 0 0 _ _
  refine lv_aload hx hb dL_why_0 (lv_at hl 4 rfl) ?_
  refine lv_iconst (v := 0) hx hb dL_why_2 (by decide) ?_
  refine lv_aload_n hx hb dL_why_3 rfl (lv_at hl 0 rfl) ?_
  refine lv_iload_n hx hb dL_why_4 rfl (lv_at hl 1 rfl) ?_
  refine lv_iload_n hx hb dL_why_5 rfl (lv_at hl 2 rfl) ?_
  refine lv_iload_n hx hb dL_why_6 rfl (lv_at hl 3 rfl) ?_
  refine gk_callTi ⟨hx, hb, hml, hown, hts⟩ (c_X8_why l hfl D cI cZ cG cL ad q1 q2 q3 hw) (cwV 3 hts (gk_gV ml_L_93 im_X8_why se_X8_why in_X8 co_X8_why) rfl rfl rfl (by decide +kernel) ⟨Nat.le_of_ble_eq_true rfl, Nat.le_of_ble_eq_true rfl⟩) (gk_recv hK.1 (gk_o0 hW) rfl) hW hK hY hS (fun q h => Or.inr h) rfl hl.1 (rest := [.int 0, .ref oa]) rfl (lv_room (Nat.le_of_ble_eq_true rfl)) dL_why_7 ⟨Nat.le_of_ble_eq_true rfl, Nat.le_of_ble_eq_true rfl⟩ (fun E ce q9 u H locs hT hW hk hS hc1 hc2 hc3 => ?_) (fun r u H locs hw hW hk hS => ?_)
  · have hO := hO.kept (hk _ hoa (fun h => h.elim (fun ⟨k, h1, h2⟩ => hne k h1 h2) (fun h => absurd hoa (Nat.not_lt.mpr h))))
    obtain ⟨rfl, hw⟩ := hT
    refine vx_catch hown [] ⟨0, 12, 15, 25⟩ [] (by rw [htab]; rfl) (fun z hz => nomatch hz) (by decide) (by decide) (hts _ cl_L_25) (va_Nw.use rfl (hY.2.1 _ (by decide))) hc1 hc2 hc3 ?_
    refine lv_astore (lv' := [(5, .ref q9), (0, .ref (ad 0)), (1, .int a0), (2, .int a1), (3, .int a2), (4, .ref oa)]) hx hb dL_why_15 hl (by decide) rfl (fun ls hl => ?_)
    refine lv_iconst (v := 1) hx hb dL_why_17 (by decide) ?_
    refine vx_ret ?_
    exact gk_rethl C0 (u := (_, _)) hw hW hO hS dL_why_18
  · have hO := hO.kept (hk _ hoa (fun h => h.elim (fun ⟨k, h1, h2⟩ => hne k h1 h2) (fun h => absurd hoa (Nat.not_lt.mpr h))))
    refine lv_i2l (v := r.toInt64) hx hb dL_why_10 rfl ?_
    refine gk_last hx hb hK hS (Or.inl rfl) hO dL_why_11 (fun H locs hO z1 oq hS => ?_)
    have hW := hW.kept (fun k hk9 => oq _ (fun e => hne k hk9 e.symm))
    refine lv_goto (tgt := 19) hx hb dL_why_12 (by decide) ?_
    refine lv_iconst (v := 0) hx hb dL_why_19 (by decide) ?_
    refine vx_ret ?_
    exact gk_rethl C0 (u := (_, _)) hw hW hO hS dL_why_20
def w_L_access (σ : gk_C) (o : Int64) (a0 : Int32) (a1 : Int32) (a2 : Int32) (Q : Int32 → gk_C → Int64 → Prop) : Prop := w_X8_access σ a0 a1 a2 (fun E u => (E = gk_E1 ∧ Q 1 u o)) (fun r u => Q 0 u r.toInt64)
abbrev rmL_access : Room := { frames := 9, cells := 1, slots := 6, locals := 166 }
set_option maxHeartbeats 4000000 in
set_option maxRecDepth 100000 in
theorem c_L_access (l : Launch) (hfl : l.stackTraces = false) (D : va_G) (cI cZ cG cL : ClassId) (ad : Nat → Nat) (q1 q2 q3 oa : Nat) {σ : gk_C} {o : Int64} {a0 : Int32} {a1 : Int32} {a2 : Int32} {Q : Int32 → gk_C → Int64 → Prop} {sz : Nat} (hw : w_L_access σ o a0 a1 a2 Q) : vx_Met l yL_access wsL_access rmL_access (gk_Pl D cI cZ cG cL ad q1 q2 q3 oa [.ref (ad 0), .int a0, .int a1, .int a2, .ref oa] sz σ o) (gk_Ql D cI cL ad oa Q sz) gk_XF 1 6 (gk_Al ad oa sz) := by
  refine vx_ofWH (cc := cL_access) (maxL := 6) (ret := (some .int)) (by decide) rfl ?_
  intro p e s m args below meth c s₁ B hml0 hv0
  obtain ⟨rfl, hsz, hW, hO, hne, hK, hY, hN⟩ := hv0
  subst hsz
  have C0 : gk_F p s m ([.ref (ad 0), .int a0, .int a1, .int a2, .ref oa] : List Value).toArray meth c cL_access 6 (some .int) RL := ⟨B.exec, B.bytes, hml0, findClass_of_methodNamed B.named, fun w hw => atoms_spec (ws := wsL_access) B.pre w (List.mem_cons_of_mem _ hw), B.returns, B.notSynchronized⟩
  obtain ⟨hx, hb, hml, hown, hts, hr, hlocks⟩ := id C0
  have htab := vx_table (x := yL_access) B (atoms_spec (ws := wsL_access) B.pre _ List.mem_cons_self)
  have hS : va_S (gk_Al ad oa s.heap.size) s.heap s.heap [] := va_S.rf
  have hoa := hO.lt
  have hl := lv_entry ([.ref (ad 0), .int a0, .int a1, .int a2, .ref oa]) (n := 6) (Nat.le_of_ble_eq_true rfl)
  rw [lg_entry_eq]
  generalize (lg_sl ([.ref (ad 0), .int a0, .int a1, .int a2, .ref oa]) ++ List.replicate (6 - (lg_sl ([.ref (ad 0), .int a0, .int a1, .int a2, .ref oa])).length) Slot.unset).toArray = ls at hl ⊢
  have hl : lv_has ls 6 [(0, .ref (ad 0)), (1, .int a0), (2, .int a1), (3, .int a2), (4, .ref oa)] := hl
  show W p l e rmL_access s m _ below meth c s.heap [] 0 0 _ _
  refine lv_aload hx hb dL_access_0 (lv_at hl 4 rfl) ?_
  refine lv_iconst (v := 0) hx hb dL_access_2 (by decide) ?_
  refine lv_aload_n hx hb dL_access_3 rfl (lv_at hl 0 rfl) ?_
  refine lv_iload_n hx hb dL_access_4 rfl (lv_at hl 1 rfl) ?_
  refine lv_iload_n hx hb dL_access_5 rfl (lv_at hl 2 rfl) ?_
  refine lv_iload_n hx hb dL_access_6 rfl (lv_at hl 3 rfl) ?_
  refine gk_callTi ⟨hx, hb, hml, hown, hts⟩ (c_X8_access l hfl D cI cZ cG cL ad q1 q2 q3 hw) (cwV 3 hts (gk_gV ml_L_96 im_X8_access se_X8_access in_X8 co_X8_access) rfl rfl rfl (by decide +kernel) ⟨Nat.le_of_ble_eq_true rfl, Nat.le_of_ble_eq_true rfl⟩) (gk_recv hK.1 (gk_o0 hW) rfl) hW hK hY hS (fun q h => Or.inr h) rfl hl.1 (rest := [.int 0, .ref oa]) rfl (lv_room (Nat.le_of_ble_eq_true rfl)) dL_access_7 ⟨Nat.le_of_ble_eq_true rfl, Nat.le_of_ble_eq_true rfl⟩ (fun E ce q9 u H locs hT hW hk hS hc1 hc2 hc3 => ?_) (fun r u H locs hw hW hk hS => ?_)
  · have hO := hO.kept (hk _ hoa (fun h => h.elim (fun ⟨k, h1, h2⟩ => hne k h1 h2) (fun h => absurd hoa (Nat.not_lt.mpr h))))
    obtain ⟨rfl, hw⟩ := hT
    refine vx_catch hown [] ⟨0, 12, 15, 25⟩ [] (by rw [htab]; rfl) (fun z hz => nomatch hz) (by decide) (by decide) (hts _ cl_L_25) (va_Nw.use rfl (hY.2.1 _ (by decide))) hc1 hc2 hc3 ?_
    refine lv_astore (lv' := [(5, .ref q9), (0, .ref (ad 0)), (1, .int a0), (2, .int a1), (3, .int a2), (4, .ref oa)]) hx hb dL_access_15 hl (by decide) rfl (fun ls hl => ?_)
    refine lv_iconst (v := 1) hx hb dL_access_17 (by decide) ?_
    refine vx_ret ?_
    exact gk_rethl C0 (u := (_, _)) hw hW hO hS dL_access_18
  · have hO := hO.kept (hk _ hoa (fun h => h.elim (fun ⟨k, h1, h2⟩ => hne k h1 h2) (fun h => absurd hoa (Nat.not_lt.mpr h))))
    refine lv_i2l (v := r.toInt64) hx hb dL_access_10 rfl ?_
    refine gk_last hx hb hK hS (Or.inl rfl) hO dL_access_11 (fun H locs hO z1 oq hS => ?_)
    have hW := hW.kept (fun k hk9 => oq _ (fun e => hne k hk9 e.symm))
    refine lv_goto (tgt := 19) hx hb dL_access_12 (by decide) ?_
    refine lv_iconst (v := 0) hx hb dL_access_19 (by decide) ?_
    refine vx_ret ?_
    exact gk_rethl C0 (u := (_, _)) hw hW hO hS dL_access_20
def w_L_counted (σ : gk_C) (o : Int64) (a0 : Int32) (Q : Int32 → gk_C → Int64 → Prop) : Prop := w_X8_counted σ a0 (fun E u => (E = gk_E2 ∧ Q 1 u o)) (fun r u => Q 0 u r.toInt64)
abbrev rmL_counted : Room := { frames := 8, cells := 1, slots := 6, locals := 123 }
set_option maxHeartbeats 4000000 in
set_option maxRecDepth 100000 in
theorem c_L_counted (l : Launch) (hfl : l.stackTraces = false) (D : va_G) (cI cZ cG cL : ClassId) (ad : Nat → Nat) (q1 q2 q3 oa : Nat) {σ : gk_C} {o : Int64} {a0 : Int32} {Q : Int32 → gk_C → Int64 → Prop} {sz : Nat} (hw : w_L_counted σ o a0 Q) : vx_Met l yL_counted wsL_counted rmL_counted (gk_Pl D cI cZ cG cL ad q1 q2 q3 oa [.ref (ad 0), .int a0, .ref oa] sz σ o) (gk_Ql D cI cL ad oa Q sz) gk_XF 1 6 (gk_Al ad oa sz) := by
  refine vx_ofWH (cc := cL_counted) (maxL := 4) (ret := (some .int)) (by decide) rfl ?_
  intro p e s m args below meth c s₁ B hml0 hv0
  obtain ⟨rfl, hsz, hW, hO, hne, hK, hY, hN⟩ := hv0
  subst hsz
  have C0 : gk_F p s m ([.ref (ad 0), .int a0, .ref oa] : List Value).toArray meth c cL_counted 4 (some .int) RL := ⟨B.exec, B.bytes, hml0, findClass_of_methodNamed B.named, fun w hw => atoms_spec (ws := wsL_counted) B.pre w (List.mem_cons_of_mem _ hw), B.returns, B.notSynchronized⟩
  obtain ⟨hx, hb, hml, hown, hts, hr, hlocks⟩ := id C0
  have htab := vx_table (x := yL_counted) B (atoms_spec (ws := wsL_counted) B.pre _ List.mem_cons_self)
  have hS : va_S (gk_Al ad oa s.heap.size) s.heap s.heap [] := va_S.rf
  have hoa := hO.lt
  have hl := lv_entry ([.ref (ad 0), .int a0, .ref oa]) (n := 4) (Nat.le_of_ble_eq_true rfl)
  rw [lg_entry_eq]
  generalize (lg_sl ([.ref (ad 0), .int a0, .ref oa]) ++ List.replicate (4 - (lg_sl ([.ref (ad 0), .int a0, .ref oa])).length) Slot.unset).toArray = ls at hl ⊢
  have hl : lv_has ls 4 [(0, .ref (ad 0)), (1, .int a0), (2, .ref oa)] := hl
  show W p l e rmL_counted s m _ below meth c s.heap [] 0 0 _ _
  refine lv_aload_n hx hb dL_counted_0 rfl (lv_at hl 2 rfl) ?_
  refine lv_iconst (v := 0) hx hb dL_counted_1 (by decide) ?_
  refine lv_aload_n hx hb dL_counted_2 rfl (lv_at hl 0 rfl) ?_
  refine lv_iload_n hx hb dL_counted_3 rfl (lv_at hl 1 rfl) ?_
  refine gk_callTi ⟨hx, hb, hml, hown, hts⟩ (c_X8_counted l hfl D cI cZ cG cL ad q1 q2 q3 hw) (cwV 1 hts (gk_gV ml_L_99 im_X8_counted se_X8_counted in_X8 co_X8_counted) rfl rfl rfl (by decide +kernel) ⟨Nat.le_of_ble_eq_true rfl, Nat.le_of_ble_eq_true rfl⟩) (gk_recv hK.1 (gk_o0 hW) rfl) hW hK hY hS (fun q h => Or.inr h) rfl hl.1 (rest := [.int 0, .ref oa]) rfl (lv_room (Nat.le_of_ble_eq_true rfl)) dL_counted_4 ⟨Nat.le_of_ble_eq_true rfl, Nat.le_of_ble_eq_true rfl⟩ (fun E ce q9 u H locs hT hW hk hS hc1 hc2 hc3 => ?_) (fun r u H locs hw hW hk hS => ?_)
  · have hO := hO.kept (hk _ hoa (fun h => h.elim (fun ⟨k, h1, h2⟩ => hne k h1 h2) (fun h => absurd hoa (Nat.not_lt.mpr h))))
    obtain ⟨rfl, hw⟩ := hT
    refine vx_catch hown [] ⟨0, 9, 12, 13⟩ [] (by rw [htab]; rfl) (fun z hz => nomatch hz) (by decide) (by decide) (hts _ cl_L_13) (va_Nw.use rfl (hY.2.1 _ (by decide))) hc1 hc2 hc3 ?_
    refine lv_astore_n (lv' := [(3, .ref q9), (0, .ref (ad 0)), (1, .int a0), (2, .ref oa)]) hx hb dL_counted_12 rfl hl (by decide) rfl (fun ls hl => ?_)
    refine lv_iconst (v := 1) hx hb dL_counted_13 (by decide) ?_
    refine vx_ret ?_
    exact gk_rethl C0 (u := (_, _)) hw hW hO hS dL_counted_14
  · have hO := hO.kept (hk _ hoa (fun h => h.elim (fun ⟨k, h1, h2⟩ => hne k h1 h2) (fun h => absurd hoa (Nat.not_lt.mpr h))))
    refine lv_i2l (v := r.toInt64) hx hb dL_counted_7 rfl ?_
    refine gk_last hx hb hK hS (Or.inl rfl) hO dL_counted_8 (fun H locs hO z1 oq hS => ?_)
    have hW := hW.kept (fun k hk9 => oq _ (fun e => hne k hk9 e.symm))
    refine lv_goto (tgt := 15) hx hb dL_counted_9 (by decide) ?_
    refine lv_iconst (v := 0) hx hb dL_counted_15 (by decide) ?_
    refine vx_ret ?_
    exact gk_rethl C0 (u := (_, _)) hw hW hO hS dL_counted_16
def w_L_done (σ : gk_C) (o : Int64) (a0 : Int32) (a1 : Int32) (Q : Int32 → gk_C → Int64 → Prop) : Prop := w_X8_done σ a0 a1 (fun E u => (E = gk_E1 ∧ Q 1 u o)) (fun r u => Q 0 u r.toInt64)
abbrev rmL_done : Room := { frames := 8, cells := 1, slots := 6, locals := 124 }
set_option maxHeartbeats 4000000 in
set_option maxRecDepth 100000 in
theorem c_L_done (l : Launch) (hfl : l.stackTraces = false) (D : va_G) (cI cZ cG cL : ClassId) (ad : Nat → Nat) (q1 q2 q3 oa : Nat) {σ : gk_C} {o : Int64} {a0 : Int32} {a1 : Int32} {Q : Int32 → gk_C → Int64 → Prop} {sz : Nat} (hw : w_L_done σ o a0 a1 Q) : vx_Met l yL_done wsL_done rmL_done (gk_Pl D cI cZ cG cL ad q1 q2 q3 oa [.ref (ad 0), .int a0, .int a1, .ref oa] sz σ o) (gk_Ql D cI cL ad oa Q sz) gk_XF 1 6 (gk_Al ad oa sz) := by
  refine vx_ofWH (cc := cL_done) (maxL := 5) (ret := (some .int)) (by decide) rfl ?_
  intro p e s m args below meth c s₁ B hml0 hv0
  obtain ⟨rfl, hsz, hW, hO, hne, hK, hY, hN⟩ := hv0
  subst hsz
  have C0 : gk_F p s m ([.ref (ad 0), .int a0, .int a1, .ref oa] : List Value).toArray meth c cL_done 5 (some .int) RL := ⟨B.exec, B.bytes, hml0, findClass_of_methodNamed B.named, fun w hw => atoms_spec (ws := wsL_done) B.pre w (List.mem_cons_of_mem _ hw), B.returns, B.notSynchronized⟩
  obtain ⟨hx, hb, hml, hown, hts, hr, hlocks⟩ := id C0
  have htab := vx_table (x := yL_done) B (atoms_spec (ws := wsL_done) B.pre _ List.mem_cons_self)
  have hS : va_S (gk_Al ad oa s.heap.size) s.heap s.heap [] := va_S.rf
  have hoa := hO.lt
  have hl := lv_entry ([.ref (ad 0), .int a0, .int a1, .ref oa]) (n := 5) (Nat.le_of_ble_eq_true rfl)
  rw [lg_entry_eq]
  generalize (lg_sl ([.ref (ad 0), .int a0, .int a1, .ref oa]) ++ List.replicate (5 - (lg_sl ([.ref (ad 0), .int a0, .int a1, .ref oa])).length) Slot.unset).toArray = ls at hl ⊢
  have hl : lv_has ls 5 [(0, .ref (ad 0)), (1, .int a0), (2, .int a1), (3, .ref oa)] := hl
  show W p l e rmL_done s m _ below meth c s.heap [] 0 0 _ _
  refine lv_aload_n hx hb dL_done_0 rfl (lv_at hl 3 rfl) ?_
  refine lv_iconst (v := 0) hx hb dL_done_1 (by decide) ?_
  refine lv_aload_n hx hb dL_done_2 rfl (lv_at hl 0 rfl) ?_
  refine lv_iload_n hx hb dL_done_3 rfl (lv_at hl 1 rfl) ?_
  refine lv_iload_n hx hb dL_done_4 rfl (lv_at hl 2 rfl) ?_
  refine gk_callTi ⟨hx, hb, hml, hown, hts⟩ (c_X8_done l hfl D cI cZ cG cL ad q1 q2 q3 hw) (cwV 2 hts (gk_gV ml_L_102 im_X8_done se_X8_done in_X8 co_X8_done) rfl rfl rfl (by decide +kernel) ⟨Nat.le_of_ble_eq_true rfl, Nat.le_of_ble_eq_true rfl⟩) (gk_recv hK.1 (gk_o0 hW) rfl) hW hK hY hS (fun q h => Or.inr h) rfl hl.1 (rest := [.int 0, .ref oa]) rfl (lv_room (Nat.le_of_ble_eq_true rfl)) dL_done_5 ⟨Nat.le_of_ble_eq_true rfl, Nat.le_of_ble_eq_true rfl⟩ (fun E ce q9 u H locs hT hW hk hS hc1 hc2 hc3 => ?_) (fun r u H locs hw hW hk hS => ?_)
  · have hO := hO.kept (hk _ hoa (fun h => h.elim (fun ⟨k, h1, h2⟩ => hne k h1 h2) (fun h => absurd hoa (Nat.not_lt.mpr h))))
    obtain ⟨rfl, hw⟩ := hT
    refine vx_catch hown [] ⟨0, 10, 13, 25⟩ [] (by rw [htab]; rfl) (fun z hz => nomatch hz) (by decide) (by decide) (hts _ cl_L_25) (va_Nw.use rfl (hY.2.1 _ (by decide))) hc1 hc2 hc3 ?_
    refine lv_astore (lv' := [(4, .ref q9), (0, .ref (ad 0)), (1, .int a0), (2, .int a1), (3, .ref oa)]) hx hb dL_done_13 hl (by decide) rfl (fun ls hl => ?_)
    refine lv_iconst (v := 1) hx hb dL_done_15 (by decide) ?_
    refine vx_ret ?_
    exact gk_rethl C0 (u := (_, _)) hw hW hO hS dL_done_16
  · have hO := hO.kept (hk _ hoa (fun h => h.elim (fun ⟨k, h1, h2⟩ => hne k h1 h2) (fun h => absurd hoa (Nat.not_lt.mpr h))))
    refine lv_i2l (v := r.toInt64) hx hb dL_done_8 rfl ?_
    refine gk_last hx hb hK hS (Or.inl rfl) hO dL_done_9 (fun H locs hO z1 oq hS => ?_)
    have hW := hW.kept (fun k hk9 => oq _ (fun e => hne k hk9 e.symm))
    refine lv_goto (tgt := 17) hx hb dL_done_10 (by decide) ?_
    refine lv_iconst (v := 0) hx hb dL_done_17 (by decide) ?_
    refine vx_ret ?_
    exact gk_rethl C0 (u := (_, _)) hw hW hO hS dL_done_18
def w_L_who (σ : gk_C) (o : Int64) (a0 : Int32) (a1 : Int32) (Q : Int32 → gk_C → Int64 → Prop) : Prop := w_X8_who σ a0 a1 (fun E u => (E = gk_E1 ∧ Q 1 u o)) (fun r u => Q 0 u r.toInt64)
abbrev rmL_who : Room := { frames := 8, cells := 1, slots := 6, locals := 166 }
set_option maxHeartbeats 4000000 in
set_option maxRecDepth 100000 in
theorem c_L_who (l : Launch) (hfl : l.stackTraces = false) (D : va_G) (cI cZ cG cL : ClassId) (ad : Nat → Nat) (q1 q2 q3 oa : Nat) {σ : gk_C} {o : Int64} {a0 : Int32} {a1 : Int32} {Q : Int32 → gk_C → Int64 → Prop} {sz : Nat} (hw : w_L_who σ o a0 a1 Q) : vx_Met l yL_who wsL_who rmL_who (gk_Pl D cI cZ cG cL ad q1 q2 q3 oa [.ref (ad 0), .int a0, .int a1, .ref oa] sz σ o) (gk_Ql D cI cL ad oa Q sz) gk_XF 1 6 (gk_Al ad oa sz) := by
  refine vx_ofWH (cc := cL_who) (maxL := 5) (ret := (some .int)) (by decide) rfl ?_
  intro p e s m args below meth c s₁ B hml0 hv0
  obtain ⟨rfl, hsz, hW, hO, hne, hK, hY, hN⟩ := hv0
  subst hsz
  have C0 : gk_F p s m ([.ref (ad 0), .int a0, .int a1, .ref oa] : List Value).toArray meth c cL_who 5 (some .int) RL := ⟨B.exec, B.bytes, hml0, findClass_of_methodNamed B.named, fun w hw => atoms_spec (ws := wsL_who) B.pre w (List.mem_cons_of_mem _ hw), B.returns, B.notSynchronized⟩
  obtain ⟨hx, hb, hml, hown, hts, hr, hlocks⟩ := id C0
  have htab := vx_table (x := yL_who) B (atoms_spec (ws := wsL_who) B.pre _ List.mem_cons_self)
  have hS : va_S (gk_Al ad oa s.heap.size) s.heap s.heap [] := va_S.rf
  have hoa := hO.lt
  have hl := lv_entry ([.ref (ad 0), .int a0, .int a1, .ref oa]) (n := 5) (Nat.le_of_ble_eq_true rfl)
  rw [lg_entry_eq]
  generalize (lg_sl ([.ref (ad 0), .int a0, .int a1, .ref oa]) ++ List.replicate (5 - (lg_sl ([.ref (ad 0), .int a0, .int a1, .ref oa])).length) Slot.unset).toArray = ls at hl ⊢
  have hl : lv_has ls 5 [(0, .ref (ad 0)), (1, .int a0), (2, .int a1), (3, .ref oa)] := hl
  show W p l e rmL_who s m _ below meth c s.heap [] 0 0 _ _
  refine lv_aload_n hx hb dL_who_0 rfl (lv_at hl 3 rfl) ?_
  refine lv_iconst (v := 0) hx hb dL_who_1 (by decide) ?_
  refine lv_aload_n hx hb dL_who_2 rfl (lv_at hl 0 rfl) ?_
  refine lv_iload_n hx hb dL_who_3 rfl (lv_at hl 1 rfl) ?_
  refine lv_iload_n hx hb dL_who_4 rfl (lv_at hl 2 rfl) ?_
  refine gk_callTi ⟨hx, hb, hml, hown, hts⟩ (c_X8_who l hfl D cI cZ cG cL ad q1 q2 q3 hw) (cwV 2 hts (gk_gV ml_L_105 im_X8_who se_X8_who in_X8 co_X8_who) rfl rfl rfl (by decide +kernel) ⟨Nat.le_of_ble_eq_true rfl, Nat.le_of_ble_eq_true rfl⟩) (gk_recv hK.1 (gk_o0 hW) rfl) hW hK hY hS (fun q h => Or.inr h) rfl hl.1 (rest := [.int 0, .ref oa]) rfl (lv_room (Nat.le_of_ble_eq_true rfl)) dL_who_5 ⟨Nat.le_of_ble_eq_true rfl, Nat.le_of_ble_eq_true rfl⟩ (fun E ce q9 u H locs hT hW hk hS hc1 hc2 hc3 => ?_) (fun r u H locs hw hW hk hS => ?_)
  · have hO := hO.kept (hk _ hoa (fun h => h.elim (fun ⟨k, h1, h2⟩ => hne k h1 h2) (fun h => absurd hoa (Nat.not_lt.mpr h))))
    obtain ⟨rfl, hw⟩ := hT
    refine vx_catch hown [] ⟨0, 10, 13, 25⟩ [] (by rw [htab]; rfl) (fun z hz => nomatch hz) (by decide) (by decide) (hts _ cl_L_25) (va_Nw.use rfl (hY.2.1 _ (by decide))) hc1 hc2 hc3 ?_
    refine lv_astore (lv' := [(4, .ref q9), (0, .ref (ad 0)), (1, .int a0), (2, .int a1), (3, .ref oa)]) hx hb dL_who_13 hl (by decide) rfl (fun ls hl => ?_)
    refine lv_iconst (v := 1) hx hb dL_who_15 (by decide) ?_
    refine vx_ret ?_
    exact gk_rethl C0 (u := (_, _)) hw hW hO hS dL_who_16
  · have hO := hO.kept (hk _ hoa (fun h => h.elim (fun ⟨k, h1, h2⟩ => hne k h1 h2) (fun h => absurd hoa (Nat.not_lt.mpr h))))
    refine lv_i2l (v := r.toInt64) hx hb dL_who_8 rfl ?_
    refine gk_last hx hb hK hS (Or.inl rfl) hO dL_who_9 (fun H locs hO z1 oq hS => ?_)
    have hW := hW.kept (fun k hk9 => oq _ (fun e => hne k hk9 e.symm))
    refine lv_goto (tgt := 17) hx hb dL_who_10 (by decide) ?_
    refine lv_iconst (v := 0) hx hb dL_who_17 (by decide) ?_
    refine vx_ret ?_
    exact gk_rethl C0 (u := (_, _)) hw hW hO hS dL_who_18
def w_L_reach (σ : gk_C) (o : Int64) (a0 : Int32) (a1 : Int32) (Q : Int32 → gk_C → Int64 → Prop) : Prop := w_X8_reach σ a0 a1 (fun E u => (E = gk_E1 ∧ Q 1 u o)) (fun r u => Q 0 u r.toInt64)
abbrev rmL_reach : Room := { frames := 8, cells := 1, slots := 6, locals := 185 }
set_option maxHeartbeats 4000000 in
set_option maxRecDepth 100000 in
theorem c_L_reach (l : Launch) (hfl : l.stackTraces = false) (D : va_G) (cI cZ cG cL : ClassId) (ad : Nat → Nat) (q1 q2 q3 oa : Nat) {σ : gk_C} {o : Int64} {a0 : Int32} {a1 : Int32} {Q : Int32 → gk_C → Int64 → Prop} {sz : Nat} (hw : w_L_reach σ o a0 a1 Q) : vx_Met l yL_reach wsL_reach rmL_reach (gk_Pl D cI cZ cG cL ad q1 q2 q3 oa [.ref (ad 0), .int a0, .int a1, .ref oa] sz σ o) (gk_Ql D cI cL ad oa Q sz) gk_XF 1 6 (gk_Al ad oa sz) := by
  refine vx_ofWH (cc := cL_reach) (maxL := 5) (ret := (some .int)) (by decide) rfl ?_
  intro p e s m args below meth c s₁ B hml0 hv0
  obtain ⟨rfl, hsz, hW, hO, hne, hK, hY, hN⟩ := hv0
  subst hsz
  have C0 : gk_F p s m ([.ref (ad 0), .int a0, .int a1, .ref oa] : List Value).toArray meth c cL_reach 5 (some .int) RL := ⟨B.exec, B.bytes, hml0, findClass_of_methodNamed B.named, fun w hw => atoms_spec (ws := wsL_reach) B.pre w (List.mem_cons_of_mem _ hw), B.returns, B.notSynchronized⟩
  obtain ⟨hx, hb, hml, hown, hts, hr, hlocks⟩ := id C0
  have htab := vx_table (x := yL_reach) B (atoms_spec (ws := wsL_reach) B.pre _ List.mem_cons_self)
  have hS : va_S (gk_Al ad oa s.heap.size) s.heap s.heap [] := va_S.rf
  have hoa := hO.lt
  have hl := lv_entry ([.ref (ad 0), .int a0, .int a1, .ref oa]) (n := 5) (Nat.le_of_ble_eq_true rfl)
  rw [lg_entry_eq]
  generalize (lg_sl ([.ref (ad 0), .int a0, .int a1, .ref oa]) ++ List.replicate (5 - (lg_sl ([.ref (ad 0), .int a0, .int a1, .ref oa])).length) Slot.unset).toArray = ls at hl ⊢
  have hl : lv_has ls 5 [(0, .ref (ad 0)), (1, .int a0), (2, .int a1), (3, .ref oa)] := hl
  show W p l e rmL_reach s m _ below meth c s.heap [] 0 0 _ _
  refine lv_aload_n hx hb dL_reach_0 rfl (lv_at hl 3 rfl) ?_
  refine lv_iconst (v := 0) hx hb dL_reach_1 (by decide) ?_
  refine lv_aload_n hx hb dL_reach_2 rfl (lv_at hl 0 rfl) ?_
  refine lv_iload_n hx hb dL_reach_3 rfl (lv_at hl 1 rfl) ?_
  refine lv_iload_n hx hb dL_reach_4 rfl (lv_at hl 2 rfl) ?_
  refine gk_callTi ⟨hx, hb, hml, hown, hts⟩ (c_X8_reach l hfl D cI cZ cG cL ad q1 q2 q3 hw) (cwV 2 hts (gk_gV ml_L_108 im_X8_reach se_X8_reach in_X8 co_X8_reach) rfl rfl rfl (by decide +kernel) ⟨Nat.le_of_ble_eq_true rfl, Nat.le_of_ble_eq_true rfl⟩) (gk_recv hK.1 (gk_o0 hW) rfl) hW hK hY hS (fun q h => Or.inr h) rfl hl.1 (rest := [.int 0, .ref oa]) rfl (lv_room (Nat.le_of_ble_eq_true rfl)) dL_reach_5 ⟨Nat.le_of_ble_eq_true rfl, Nat.le_of_ble_eq_true rfl⟩ (fun E ce q9 u H locs hT hW hk hS hc1 hc2 hc3 => ?_) (fun r u H locs hw hW hk hS => ?_)
  · have hO := hO.kept (hk _ hoa (fun h => h.elim (fun ⟨k, h1, h2⟩ => hne k h1 h2) (fun h => absurd hoa (Nat.not_lt.mpr h))))
    obtain ⟨rfl, hw⟩ := hT
    refine vx_catch hown [] ⟨0, 10, 13, 25⟩ [] (by rw [htab]; rfl) (fun z hz => nomatch hz) (by decide) (by decide) (hts _ cl_L_25) (va_Nw.use rfl (hY.2.1 _ (by decide))) hc1 hc2 hc3 ?_
    refine lv_astore (lv' := [(4, .ref q9), (0, .ref (ad 0)), (1, .int a0), (2, .int a1), (3, .ref oa)]) hx hb dL_reach_13 hl (by decide) rfl (fun ls hl => ?_)
    refine lv_iconst (v := 1) hx hb dL_reach_15 (by decide) ?_
    refine vx_ret ?_
    exact gk_rethl C0 (u := (_, _)) hw hW hO hS dL_reach_16
  · have hO := hO.kept (hk _ hoa (fun h => h.elim (fun ⟨k, h1, h2⟩ => hne k h1 h2) (fun h => absurd hoa (Nat.not_lt.mpr h))))
    refine lv_i2l (v := r.toInt64) hx hb dL_reach_8 rfl ?_
    refine gk_last hx hb hK hS (Or.inl rfl) hO dL_reach_9 (fun H locs hO z1 oq hS => ?_)
    have hW := hW.kept (fun k hk9 => oq _ (fun e => hne k hk9 e.symm))
    refine lv_goto (tgt := 17) hx hb dL_reach_10 (by decide) ?_
    refine lv_iconst (v := 0) hx hb dL_reach_17 (by decide) ?_
    refine vx_ret ?_
    exact gk_rethl C0 (u := (_, _)) hw hW hO hS dL_reach_18
def w_L_rolesNeeded (σ : gk_C) (o : Int64) (a0 : Int32) (a1 : Int32) (a2 : Int32) (Q : Int32 → gk_C → Int64 → Prop) : Prop := w_X8_rolesNeeded σ a0 a1 a2 (fun E u => (E = gk_E1 ∧ Q 1 u o)) (fun r u => Q 0 u r.toInt64)
abbrev rmL_rolesNeeded : Room := { frames := 9, cells := 1, slots := 6, locals := 174 }
set_option maxHeartbeats 4000000 in
set_option maxRecDepth 100000 in
theorem c_L_rolesNeeded (l : Launch) (hfl : l.stackTraces = false) (D : va_G) (cI cZ cG cL : ClassId) (ad : Nat → Nat) (q1 q2 q3 oa : Nat) {σ : gk_C} {o : Int64} {a0 : Int32} {a1 : Int32} {a2 : Int32} {Q : Int32 → gk_C → Int64 → Prop} {sz : Nat} (hw : w_L_rolesNeeded σ o a0 a1 a2 Q) : vx_Met l yL_rolesNeeded wsL_rolesNeeded rmL_rolesNeeded (gk_Pl D cI cZ cG cL ad q1 q2 q3 oa [.ref (ad 0), .int a0, .int a1, .int a2, .ref oa] sz σ o) (gk_Ql D cI cL ad oa Q sz) gk_XF 1 6 (gk_Al ad oa sz) := by
  refine vx_ofWH (cc := cL_rolesNeeded) (maxL := 6) (ret := (some .int)) (by decide) rfl ?_
  intro p e s m args below meth c s₁ B hml0 hv0
  obtain ⟨rfl, hsz, hW, hO, hne, hK, hY, hN⟩ := hv0
  subst hsz
  have C0 : gk_F p s m ([.ref (ad 0), .int a0, .int a1, .int a2, .ref oa] : List Value).toArray meth c cL_rolesNeeded 6 (some .int) RL := ⟨B.exec, B.bytes, hml0, findClass_of_methodNamed B.named, fun w hw => atoms_spec (ws := wsL_rolesNeeded) B.pre w (List.mem_cons_of_mem _ hw), B.returns, B.notSynchronized⟩
  obtain ⟨hx, hb, hml, hown, hts, hr, hlocks⟩ := id C0
  have htab := vx_table (x := yL_rolesNeeded) B (atoms_spec (ws := wsL_rolesNeeded) B.pre _ List.mem_cons_self)
  have hS : va_S (gk_Al ad oa s.heap.size) s.heap s.heap [] := va_S.rf
  have hoa := hO.lt
  have hl := lv_entry ([.ref (ad 0), .int a0, .int a1, .int a2, .ref oa]) (n := 6) (Nat.le_of_ble_eq_true rfl)
  rw [lg_entry_eq]
  generalize (lg_sl ([.ref (ad 0), .int a0, .int a1, .int a2, .ref oa]) ++ List.replicate (6 - (lg_sl ([.ref (ad 0), .int a0, .int a1, .int a2, .ref oa])).length) Slot.unset).toArray = ls at hl ⊢
  have hl : lv_has ls 6 [(0, .ref (ad 0)), (1, .int a0), (2, .int a1), (3, .int a2), (4, .ref oa)] := hl
  show W p l e rmL_rolesNeeded s m _ below meth c s.heap [] 0 0 _ _
  refine lv_aload hx hb dL_rolesNeeded_0 (lv_at hl 4 rfl) ?_
  refine lv_iconst (v := 0) hx hb dL_rolesNeeded_2 (by decide) ?_
  refine lv_aload_n hx hb dL_rolesNeeded_3 rfl (lv_at hl 0 rfl) ?_
  refine lv_iload_n hx hb dL_rolesNeeded_4 rfl (lv_at hl 1 rfl) ?_
  refine lv_iload_n hx hb dL_rolesNeeded_5 rfl (lv_at hl 2 rfl) ?_
  refine lv_iload_n hx hb dL_rolesNeeded_6 rfl (lv_at hl 3 rfl) ?_
  refine gk_callTi ⟨hx, hb, hml, hown, hts⟩ (c_X8_rolesNeeded l hfl D cI cZ cG cL ad q1 q2 q3 hw) (cwV 3 hts (gk_gV ml_L_111 im_X8_rolesNeeded se_X8_rolesNeeded in_X8 co_X8_rolesNeeded) rfl rfl rfl (by decide +kernel) ⟨Nat.le_of_ble_eq_true rfl, Nat.le_of_ble_eq_true rfl⟩) (gk_recv hK.1 (gk_o0 hW) rfl) hW hK hY hS (fun q h => Or.inr h) rfl hl.1 (rest := [.int 0, .ref oa]) rfl (lv_room (Nat.le_of_ble_eq_true rfl)) dL_rolesNeeded_7 ⟨Nat.le_of_ble_eq_true rfl, Nat.le_of_ble_eq_true rfl⟩ (fun E ce q9 u H locs hT hW hk hS hc1 hc2 hc3 => ?_) (fun r u H locs hw hW hk hS => ?_)
  · have hO := hO.kept (hk _ hoa (fun h => h.elim (fun ⟨k, h1, h2⟩ => hne k h1 h2) (fun h => absurd hoa (Nat.not_lt.mpr h))))
    obtain ⟨rfl, hw⟩ := hT
    refine vx_catch hown [] ⟨0, 12, 15, 25⟩ [] (by rw [htab]; rfl) (fun z hz => nomatch hz) (by decide) (by decide) (hts _ cl_L_25) (va_Nw.use rfl (hY.2.1 _ (by decide))) hc1 hc2 hc3 ?_
    refine lv_astore (lv' := [(5, .ref q9), (0, .ref (ad 0)), (1, .int a0), (2, .int a1), (3, .int a2), (4, .ref oa)]) hx hb dL_rolesNeeded_15 hl (by decide) rfl (fun ls hl => ?_)
    refine lv_iconst (v := 1) hx hb dL_rolesNeeded_17 (by decide) ?_
    refine vx_ret ?_
    exact gk_rethl C0 (u := (_, _)) hw hW hO hS dL_rolesNeeded_18
  · have hO := hO.kept (hk _ hoa (fun h => h.elim (fun ⟨k, h1, h2⟩ => hne k h1 h2) (fun h => absurd hoa (Nat.not_lt.mpr h))))
    refine lv_i2l (v := r.toInt64) hx hb dL_rolesNeeded_10 rfl ?_
    refine gk_last hx hb hK hS (Or.inl rfl) hO dL_rolesNeeded_11 (fun H locs hO z1 oq hS => ?_)
    have hW := hW.kept (fun k hk9 => oq _ (fun e => hne k hk9 e.symm))
    refine lv_goto (tgt := 19) hx hb dL_rolesNeeded_12 (by decide) ?_
    refine lv_iconst (v := 0) hx hb dL_rolesNeeded_19 (by decide) ?_
    refine vx_ret ?_
    exact gk_rethl C0 (u := (_, _)) hw hW hO hS dL_rolesNeeded_20
def w_L_isIdle (σ : gk_C) (o : Int64) (a0 : Int32) (Q : Int32 → gk_C → Int64 → Prop) : Prop := w_X8_isIdle σ a0 (fun E u => (E = gk_E1 ∧ Q 1 u o)) (fun r u => (¬ r = 0 → Q 0 u 1) ∧ (r = 0 → Q 0 u 0))
abbrev rmL_isIdle : Room := { frames := 8, cells := 1, slots := 6, locals := 163 }
set_option maxHeartbeats 4000000 in
set_option maxRecDepth 100000 in
theorem c_L_isIdle (l : Launch) (hfl : l.stackTraces = false) (D : va_G) (cI cZ cG cL : ClassId) (ad : Nat → Nat) (q1 q2 q3 oa : Nat) {σ : gk_C} {o : Int64} {a0 : Int32} {Q : Int32 → gk_C → Int64 → Prop} {sz : Nat} (hw : w_L_isIdle σ o a0 Q) : vx_Met l yL_isIdle wsL_isIdle rmL_isIdle (gk_Pl D cI cZ cG cL ad q1 q2 q3 oa [.ref (ad 0), .int a0, .ref oa] sz σ o) (gk_Ql D cI cL ad oa Q sz) gk_XF 1 6 (gk_Al ad oa sz) := by
  refine vx_ofWH (cc := cL_isIdle) (maxL := 4) (ret := (some .int)) (by decide) rfl ?_
  intro p e s m args below meth c s₁ B hml0 hv0
  obtain ⟨rfl, hsz, hW, hO, hne, hK, hY, hN⟩ := hv0
  subst hsz
  have C0 : gk_F p s m ([.ref (ad 0), .int a0, .ref oa] : List Value).toArray meth c cL_isIdle 4 (some .int) RL := ⟨B.exec, B.bytes, hml0, findClass_of_methodNamed B.named, fun w hw => atoms_spec (ws := wsL_isIdle) B.pre w (List.mem_cons_of_mem _ hw), B.returns, B.notSynchronized⟩
  obtain ⟨hx, hb, hml, hown, hts, hr, hlocks⟩ := id C0
  have htab := vx_table (x := yL_isIdle) B (atoms_spec (ws := wsL_isIdle) B.pre _ List.mem_cons_self)
  have hS : va_S (gk_Al ad oa s.heap.size) s.heap s.heap [] := va_S.rf
  have hoa := hO.lt
  have hl := lv_entry ([.ref (ad 0), .int a0, .ref oa]) (n := 4) (Nat.le_of_ble_eq_true rfl)
  rw [lg_entry_eq]
  generalize (lg_sl ([.ref (ad 0), .int a0, .ref oa]) ++ List.replicate (4 - (lg_sl ([.ref (ad 0), .int a0, .ref oa])).length) Slot.unset).toArray = ls at hl ⊢
  have hl : lv_has ls 4 [(0, .ref (ad 0)), (1, .int a0), (2, .ref oa)] := hl
  show W p l e rmL_isIdle s m _ below meth c s.heap [] 0 0 _ _
  refine lv_aload_n hx hb dL_isIdle_0 rfl (lv_at hl 2 rfl) ?_
  refine lv_iconst (v := 0) hx hb dL_isIdle_1 (by decide) ?_
  refine lv_aload_n hx hb dL_isIdle_2 rfl (lv_at hl 0 rfl) ?_
  refine lv_iload_n hx hb dL_isIdle_3 rfl (lv_at hl 1 rfl) ?_
  refine gk_callTi ⟨hx, hb, hml, hown, hts⟩ (c_X8_isIdle l hfl D cI cZ cG cL ad q1 q2 q3 hw) (cwV 1 hts (gk_gV ml_L_114 im_X8_isIdle se_X8_isIdle in_X8 co_X8_isIdle) rfl rfl rfl (by decide +kernel) ⟨Nat.le_of_ble_eq_true rfl, Nat.le_of_ble_eq_true rfl⟩) (gk_recv hK.1 (gk_o0 hW) rfl) hW hK hY hS (fun q h => Or.inr h) rfl hl.1 (rest := [.int 0, .ref oa]) rfl (lv_room (Nat.le_of_ble_eq_true rfl)) dL_isIdle_4 ⟨Nat.le_of_ble_eq_true rfl, Nat.le_of_ble_eq_true rfl⟩ (fun E ce q9 u H locs hT hW hk hS hc1 hc2 hc3 => ?_) (fun r u H locs hw hW hk hS => ?_)
  · have hO := hO.kept (hk _ hoa (fun h => h.elim (fun ⟨k, h1, h2⟩ => hne k h1 h2) (fun h => absurd hoa (Nat.not_lt.mpr h))))
    obtain ⟨rfl, hw⟩ := hT
    refine vx_catch hown [] ⟨0, 16, 19, 25⟩ [] (by rw [htab]; rfl) (fun z hz => nomatch hz) (by decide) (by decide) (hts _ cl_L_25) (va_Nw.use rfl (hY.2.1 _ (by decide))) hc1 hc2 hc3 ?_
    refine lv_astore_n (lv' := [(3, .ref q9), (0, .ref (ad 0)), (1, .int a0), (2, .ref oa)]) hx hb dL_isIdle_19 rfl hl (by decide) rfl (fun ls hl => ?_)
    refine lv_iconst (v := 1) hx hb dL_isIdle_20 (by decide) ?_
    refine vx_ret ?_
    exact gk_rethl C0 (u := (_, _)) hw hW hO hS dL_isIdle_21
  · have hO := hO.kept (hk _ hoa (fun h => h.elim (fun ⟨k, h1, h2⟩ => hne k h1 h2) (fun h => absurd hoa (Nat.not_lt.mpr h))))
    refine lv_if_eq (tgt := 14) hx hb dL_isIdle_7 (by decide) (fun c0 => ?_) (fun c0 => ?_)
    · have hw := hw.2 c0
      refine lv_lconst (v := 0) hx hb dL_isIdle_14 (by decide) ?_
      refine gk_last hx hb hK hS (Or.inl rfl) hO dL_isIdle_15 (fun H locs hO z1 oq hS => ?_)
      have hW := hW.kept (fun k hk9 => oq _ (fun e => hne k hk9 e.symm))
      refine lv_goto (tgt := 22) hx hb dL_isIdle_16 (by decide) ?_
      refine lv_iconst (v := 0) hx hb dL_isIdle_22 (by decide) ?_
      refine vx_ret ?_
      exact gk_rethl C0 (u := (_, _)) hw hW hO hS dL_isIdle_23
    · have hw := hw.1 c0
      refine lv_lconst (v := 1) hx hb dL_isIdle_10 (by decide) ?_
      refine lv_goto (tgt := 15) hx hb dL_isIdle_11 (by decide) ?_
      refine gk_last hx hb hK hS (Or.inl rfl) hO dL_isIdle_15 (fun H locs hO z1 oq hS => ?_)
      have hW := hW.kept (fun k hk9 => oq _ (fun e => hne k hk9 e.symm))
      refine lv_goto (tgt := 22) hx hb dL_isIdle_16 (by decide) ?_
      refine lv_iconst (v := 0) hx hb dL_isIdle_22 (by decide) ?_
      refine vx_ret ?_
      exact gk_rethl C0 (u := (_, _)) hw hW hO hS dL_isIdle_23
def w_L_wouldDiffer (σ : gk_C) (o : Int64) (a0 : Int32) (Q : Int32 → gk_C → Int64 → Prop) : Prop := w_X8_wouldDiffer σ a0 (fun E u => (E = gk_E2 ∧ Q 1 u o)) (fun r u => Q 0 u r.toInt64)
abbrev rmL_wouldDiffer : Room := { frames := 8, cells := 1, slots := 6, locals := 163 }
set_option maxHeartbeats 4000000 in
set_option maxRecDepth 100000 in
theorem c_L_wouldDiffer (l : Launch) (hfl : l.stackTraces = false) (D : va_G) (cI cZ cG cL : ClassId) (ad : Nat → Nat) (q1 q2 q3 oa : Nat) {σ : gk_C} {o : Int64} {a0 : Int32} {Q : Int32 → gk_C → Int64 → Prop} {sz : Nat} (hw : w_L_wouldDiffer σ o a0 Q) : vx_Met l yL_wouldDiffer wsL_wouldDiffer rmL_wouldDiffer (gk_Pl D cI cZ cG cL ad q1 q2 q3 oa [.ref (ad 0), .int a0, .ref oa] sz σ o) (gk_Ql D cI cL ad oa Q sz) gk_XF 1 6 (gk_Al ad oa sz) := by
  refine vx_ofWH (cc := cL_wouldDiffer) (maxL := 4) (ret := (some .int)) (by decide) rfl ?_
  intro p e s m args below meth c s₁ B hml0 hv0
  obtain ⟨rfl, hsz, hW, hO, hne, hK, hY, hN⟩ := hv0
  subst hsz
  have C0 : gk_F p s m ([.ref (ad 0), .int a0, .ref oa] : List Value).toArray meth c cL_wouldDiffer 4 (some .int) RL := ⟨B.exec, B.bytes, hml0, findClass_of_methodNamed B.named, fun w hw => atoms_spec (ws := wsL_wouldDiffer) B.pre w (List.mem_cons_of_mem _ hw), B.returns, B.notSynchronized⟩
  obtain ⟨hx, hb, hml, hown, hts, hr, hlocks⟩ := id C0
  have htab := vx_table (x := yL_wouldDiffer) B (atoms_spec (ws := wsL_wouldDiffer) B.pre _ List.mem_cons_self)
  have hS : va_S (gk_Al ad oa s.heap.size) s.heap s.heap [] := va_S.rf
  have hoa := hO.lt
  have hl := lv_entry ([.ref (ad 0), .int a0, .ref oa]) (n := 4) (Nat.le_of_ble_eq_true rfl)
  rw [lg_entry_eq]
  generalize (lg_sl ([.ref (ad 0), .int a0, .ref oa]) ++ List.replicate (4 - (lg_sl ([.ref (ad 0), .int a0, .ref oa])).length) Slot.unset).toArray = ls at hl ⊢
  have hl : lv_has ls 4 [(0, .ref (ad 0)), (1, .int a0), (2, .ref oa)] := hl
  show W p l e rmL_wouldDiffer s m _ below meth c s.heap [] 0 0 _ _
  refine lv_aload_n hx hb dL_wouldDiffer_0 rfl (lv_at hl 2 rfl) ?_
  refine lv_iconst (v := 0) hx hb dL_wouldDiffer_1 (by decide) ?_
  refine lv_aload_n hx hb dL_wouldDiffer_2 rfl (lv_at hl 0 rfl) ?_
  refine lv_iload_n hx hb dL_wouldDiffer_3 rfl (lv_at hl 1 rfl) ?_
  refine gk_callTi ⟨hx, hb, hml, hown, hts⟩ (c_X8_wouldDiffer l hfl D cI cZ cG cL ad q1 q2 q3 hw) (cwV 1 hts (gk_gV ml_L_117 im_X8_wouldDiffer se_X8_wouldDiffer in_X8 co_X8_wouldDiffer) rfl rfl rfl (by decide +kernel) ⟨Nat.le_of_ble_eq_true rfl, Nat.le_of_ble_eq_true rfl⟩) (gk_recv hK.1 (gk_o0 hW) rfl) hW hK hY hS (fun q h => Or.inr h) rfl hl.1 (rest := [.int 0, .ref oa]) rfl (lv_room (Nat.le_of_ble_eq_true rfl)) dL_wouldDiffer_4 ⟨Nat.le_of_ble_eq_true rfl, Nat.le_of_ble_eq_true rfl⟩ (fun E ce q9 u H locs hT hW hk hS hc1 hc2 hc3 => ?_) (fun r u H locs hw hW hk hS => ?_)
  · have hO := hO.kept (hk _ hoa (fun h => h.elim (fun ⟨k, h1, h2⟩ => hne k h1 h2) (fun h => absurd hoa (Nat.not_lt.mpr h))))
    obtain ⟨rfl, hw⟩ := hT
    refine vx_catch hown [] ⟨0, 9, 12, 13⟩ [] (by rw [htab]; rfl) (fun z hz => nomatch hz) (by decide) (by decide) (hts _ cl_L_13) (va_Nw.use rfl (hY.2.1 _ (by decide))) hc1 hc2 hc3 ?_
    refine lv_astore_n (lv' := [(3, .ref q9), (0, .ref (ad 0)), (1, .int a0), (2, .ref oa)]) hx hb dL_wouldDiffer_12 rfl hl (by decide) rfl (fun ls hl => ?_)
    refine lv_iconst (v := 1) hx hb dL_wouldDiffer_13 (by decide) ?_
    refine vx_ret ?_
    exact gk_rethl C0 (u := (_, _)) hw hW hO hS dL_wouldDiffer_14
  · have hO := hO.kept (hk _ hoa (fun h => h.elim (fun ⟨k, h1, h2⟩ => hne k h1 h2) (fun h => absurd hoa (Nat.not_lt.mpr h))))
    refine lv_i2l (v := r.toInt64) hx hb dL_wouldDiffer_7 rfl ?_
    refine gk_last hx hb hK hS (Or.inl rfl) hO dL_wouldDiffer_8 (fun H locs hO z1 oq hS => ?_)
    have hW := hW.kept (fun k hk9 => oq _ (fun e => hne k hk9 e.symm))
    refine lv_goto (tgt := 15) hx hb dL_wouldDiffer_9 (by decide) ?_
    refine lv_iconst (v := 0) hx hb dL_wouldDiffer_15 (by decide) ?_
    refine vx_ret ?_
    exact gk_rethl C0 (u := (_, _)) hw hW hO hS dL_wouldDiffer_16
def w_L_wouldGain (σ : gk_C) (o : Int64) (a0 : Int32) (a1 : Int32) (Q : Int32 → gk_C → Int64 → Prop) : Prop := w_X8_wouldGain σ a0 a1 (fun E u => (E = gk_E1 ∧ Q 1 u o)) (fun r u => Q 0 u r.toInt64)
abbrev rmL_wouldGain : Room := { frames := 8, cells := 1, slots := 6, locals := 167 }
set_option maxHeartbeats 4000000 in
set_option maxRecDepth 100000 in
theorem c_L_wouldGain (l : Launch) (hfl : l.stackTraces = false) (D : va_G) (cI cZ cG cL : ClassId) (ad : Nat → Nat) (q1 q2 q3 oa : Nat) {σ : gk_C} {o : Int64} {a0 : Int32} {a1 : Int32} {Q : Int32 → gk_C → Int64 → Prop} {sz : Nat} (hw : w_L_wouldGain σ o a0 a1 Q) : vx_Met l yL_wouldGain wsL_wouldGain rmL_wouldGain (gk_Pl D cI cZ cG cL ad q1 q2 q3 oa [.ref (ad 0), .int a0, .int a1, .ref oa] sz σ o) (gk_Ql D cI cL ad oa Q sz) gk_XF 1 6 (gk_Al ad oa sz) := by
  refine vx_ofWH (cc := cL_wouldGain) (maxL := 5) (ret := (some .int)) (by decide) rfl ?_
  intro p e s m args below meth c s₁ B hml0 hv0
  obtain ⟨rfl, hsz, hW, hO, hne, hK, hY, hN⟩ := hv0
  subst hsz
  have C0 : gk_F p s m ([.ref (ad 0), .int a0, .int a1, .ref oa] : List Value).toArray meth c cL_wouldGain 5 (some .int) RL := ⟨B.exec, B.bytes, hml0, findClass_of_methodNamed B.named, fun w hw => atoms_spec (ws := wsL_wouldGain) B.pre w (List.mem_cons_of_mem _ hw), B.returns, B.notSynchronized⟩
  obtain ⟨hx, hb, hml, hown, hts, hr, hlocks⟩ := id C0
  have htab := vx_table (x := yL_wouldGain) B (atoms_spec (ws := wsL_wouldGain) B.pre _ List.mem_cons_self)
  have hS : va_S (gk_Al ad oa s.heap.size) s.heap s.heap [] := va_S.rf
  have hoa := hO.lt
  have hl := lv_entry ([.ref (ad 0), .int a0, .int a1, .ref oa]) (n := 5) (Nat.le_of_ble_eq_true rfl)
  rw [lg_entry_eq]
  generalize (lg_sl ([.ref (ad 0), .int a0, .int a1, .ref oa]) ++ List.replicate (5 - (lg_sl ([.ref (ad 0), .int a0, .int a1, .ref oa])).length) Slot.unset).toArray = ls at hl ⊢
  have hl : lv_has ls 5 [(0, .ref (ad 0)), (1, .int a0), (2, .int a1), (3, .ref oa)] := hl
  show W p l e rmL_wouldGain s m _ below meth c s.heap [] 0 0 _ _
  refine lv_aload_n hx hb dL_wouldGain_0 rfl (lv_at hl 3 rfl) ?_
  refine lv_iconst (v := 0) hx hb dL_wouldGain_1 (by decide) ?_
  refine lv_aload_n hx hb dL_wouldGain_2 rfl (lv_at hl 0 rfl) ?_
  refine lv_iload_n hx hb dL_wouldGain_3 rfl (lv_at hl 1 rfl) ?_
  refine lv_iload_n hx hb dL_wouldGain_4 rfl (lv_at hl 2 rfl) ?_
  refine gk_callTi ⟨hx, hb, hml, hown, hts⟩ (c_X8_wouldGain l hfl D cI cZ cG cL ad q1 q2 q3 hw) (cwV 2 hts (gk_gV ml_L_120 im_X8_wouldGain se_X8_wouldGain in_X8 co_X8_wouldGain) rfl rfl rfl (by decide +kernel) ⟨Nat.le_of_ble_eq_true rfl, Nat.le_of_ble_eq_true rfl⟩) (gk_recv hK.1 (gk_o0 hW) rfl) hW hK hY hS (fun q h => Or.inr h) rfl hl.1 (rest := [.int 0, .ref oa]) rfl (lv_room (Nat.le_of_ble_eq_true rfl)) dL_wouldGain_5 ⟨Nat.le_of_ble_eq_true rfl, Nat.le_of_ble_eq_true rfl⟩ (fun E ce q9 u H locs hT hW hk hS hc1 hc2 hc3 => ?_) (fun r u H locs hw hW hk hS => ?_)
  · have hO := hO.kept (hk _ hoa (fun h => h.elim (fun ⟨k, h1, h2⟩ => hne k h1 h2) (fun h => absurd hoa (Nat.not_lt.mpr h))))
    obtain ⟨rfl, hw⟩ := hT
    refine vx_catch hown [] ⟨0, 10, 13, 25⟩ [] (by rw [htab]; rfl) (fun z hz => nomatch hz) (by decide) (by decide) (hts _ cl_L_25) (va_Nw.use rfl (hY.2.1 _ (by decide))) hc1 hc2 hc3 ?_
    refine lv_astore (lv' := [(4, .ref q9), (0, .ref (ad 0)), (1, .int a0), (2, .int a1), (3, .ref oa)]) hx hb dL_wouldGain_13 hl (by decide) rfl (fun ls hl => ?_)
    refine lv_iconst (v := 1) hx hb dL_wouldGain_15 (by decide) ?_
    refine vx_ret ?_
    exact gk_rethl C0 (u := (_, _)) hw hW hO hS dL_wouldGain_16
  · have hO := hO.kept (hk _ hoa (fun h => h.elim (fun ⟨k, h1, h2⟩ => hne k h1 h2) (fun h => absurd hoa (Nat.not_lt.mpr h))))
    refine lv_i2l (v := r.toInt64) hx hb dL_wouldGain_8 rfl ?_
    refine gk_last hx hb hK hS (Or.inl rfl) hO dL_wouldGain_9 (fun H locs hO z1 oq hS => ?_)
    have hW := hW.kept (fun k hk9 => oq _ (fun e => hne k hk9 e.symm))
    refine lv_goto (tgt := 17) hx hb dL_wouldGain_10 (by decide) ?_
    refine lv_iconst (v := 0) hx hb dL_wouldGain_17 (by decide) ?_
    refine vx_ret ?_
    exact gk_rethl C0 (u := (_, _)) hw hW hO hS dL_wouldGain_18
