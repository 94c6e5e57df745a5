/-! ===== the gate's checks where they hold: nothing is thrown, nothing is made ===== -/
section GKC
variable {p : Program} {l : Launch} {e : Env} {R : Room} {s : State} {m : MethodId} {args : Array Value} {below : List Frame} {meth : Method} {c : Code} {H : Heap} {locs : List Loc} {cells slots : Nat} {Q : State → Prop}
variable {cc : ByteArray} {pc nL : Nat} {ls : Array Slot} {rest st0 : List Value}
variable {y : MethodName} {ws : List Cond} {rm : Room} {own : String} {index n maxL : Nat} {bytes : ByteArray} {ret : Option FieldType} {Ts : List Cond} {As : List Value}
theorem gk_callSv {A : Nat → Prop} (C0 : CallFix p m c cc nL s args Ts own) (hM : Met l y ws rm (gk_Pn As) (va_Qv (fun _ : Unit => True) gk_Bn gk_An) 0 0 gk_An) (cw : CallB R s args own index y bytes maxL ret ws rm 0 0 n ∧ (Cond.static y).before args s = true)
    (hS : va_S A s.heap H locs) (hn : As.length = n) (hsz : ls.size = nL) (hst : st0 = As.reverse ++ rest)
    (hrm : 2 * (F0 m pc ls st0).monitorRoom + (rest.map fun v => v.category).sum ≤ 8) (hdg : decode cc pc = .ok (.invokestatic index, 3)) (hf : cells ≤ R.cells ∧ slots ≤ R.slots)
    (kk : ∀ (H1 : Heap) (locs1 : List Loc), H.size ≤ H1.size → (∀ q : Nat, q < H.size → H1[q]? = H[q]?) → va_S A s.heap H1 locs1 → W p l e R s m args below meth c H1 locs1 cells slots Q (F0 m (pc + 3) ls rest)) : W p l e R s m args below meth c H locs cells slots Q (F0 m pc ls st0) :=
  va_callv (va_runS C0 hM cw ⟨gk_nblind, fun U hU hW' => ⟨rfl, trivial⟩⟩ rfl hn hsz hst hrm hdg hf) hS (fun q _ h => False.elim h) (fun q h => False.elim h) (fun u t H1 locs1 ht _ hw hB hz hk hS1 => kk H1 locs1 hz (fun q hq => hk q hq id) hS1)
end GKC
abbrev rm0X8_checkThere : Room := { frames := 0, cells := 0, slots := 0, locals := 0 }
set_option maxHeartbeats 4000000 in
set_option maxRecDepth 20000 in
theorem c0_X8_checkThere (l : Launch) {a0 : Int32} (h : ¬ a0 = 0) : Met l yX8_checkThere wsX8_checkThere rm0X8_checkThere (gk_Pn [.int a0]) (va_Qv (fun _ : Unit => True) gk_Bn gk_An) 0 0 gk_An := by
  refine Met.ofW (cc := cX8_checkThere) (maxL := 1) (ret := none) (by decide) rfl ?_
  intro p e s m args below meth c s₁ B hml0 hv0
  obtain ⟨rfl, _⟩ := hv0
  have C0 : gk_F p s m ([.int a0] : List Value).toArray meth c cX8_checkThere 1 none RX8 := ⟨B.exec, B.bytes, hml0, findClass_of_methodNamed B.named, fun w hw => atoms_spec (ws := wsX8_checkThere) B.pre w (List.mem_cons_of_mem _ hw), B.returns, B.notSynchronized⟩
  obtain ⟨hx, hb, hml, hown, hts, hr, hlocks⟩ := id C0
  have hl0 := lv_entry ([.int a0]) (n := 1) (Nat.le_of_ble_eq_true rfl)
  rw [lg_entry_eq]
  generalize (lg_sl ([.int a0]) ++ List.replicate (1 - (lg_sl ([.int a0])).length) Slot.unset).toArray = ls at hl0 ⊢
  have hl0 : lv_has ls 1 [(0, .int a0)] := hl0
  show W p l e rm0X8_checkThere s m _ below meth c s.heap [] 0 0 _ _
  refine lv_iload_n hx hb dX8_checkThere_0 rfl (lv_at hl0 0 rfl) ?_
  refine lv_if_ne (tgt := 15) hx hb dX8_checkThere_1 (by decide) (fun c1 => ?_) (fun c1 => absurd c1 h)
  exact W.vret C0.1 C0.2.1 C0.2.2.2.2.2.1 (fun t ht _ => ⟨⟨(), rfl, trivial, trivial⟩, va_S.rf.F ht⟩) (fun z hz => nomatch hz) dX8_checkThere_15 (hlocks := C0.2.2.2.2.2.2)
abbrev rm0X8_checkArguments : Room := { frames := 0, cells := 0, slots := 0, locals := 0 }
set_option maxHeartbeats 4000000 in
set_option maxRecDepth 20000 in
theorem c0_X8_checkArguments (l : Launch) {a0 : Int32} (h : ¬ a0 = 0) : Met l yX8_checkArguments wsX8_checkArguments rm0X8_checkArguments (gk_Pn [.int a0]) (va_Qv (fun _ : Unit => True) gk_Bn gk_An) 0 0 gk_An := by
  refine Met.ofW (cc := cX8_checkArguments) (maxL := 1) (ret := none) (by decide) rfl ?_
  intro p e s m args below meth c s₁ B hml0 hv0
  obtain ⟨rfl, _⟩ := hv0
  have C0 : gk_F p s m ([.int a0] : List Value).toArray meth c cX8_checkArguments 1 none RX8 := ⟨B.exec, B.bytes, hml0, findClass_of_methodNamed B.named, fun w hw => atoms_spec (ws := wsX8_checkArguments) B.pre w (List.mem_cons_of_mem _ hw), B.returns, B.notSynchronized⟩
  obtain ⟨hx, hb, hml, hown, hts, hr, hlocks⟩ := id C0
  have hl0 := lv_entry ([.int a0]) (n := 1) (Nat.le_of_ble_eq_true rfl)
  rw [lg_entry_eq]
  generalize (lg_sl ([.int a0]) ++ List.replicate (1 - (lg_sl ([.int a0])).length) Slot.unset).toArray = ls at hl0 ⊢
  have hl0 : lv_has ls 1 [(0, .int a0)] := hl0
  show W p l e rm0X8_checkArguments s m _ below meth c s.heap [] 0 0 _ _
  refine lv_iload_n hx hb dX8_checkArguments_0 rfl (lv_at hl0 0 rfl) ?_
  refine lv_if_ne (tgt := 15) hx hb dX8_checkArguments_1 (by decide) (fun c1 => ?_) (fun c1 => absurd c1 h)
  exact W.vret C0.1 C0.2.1 C0.2.2.2.2.2.1 (fun t ht _ => ⟨⟨(), rfl, trivial, trivial⟩, va_S.rf.F ht⟩) (fun z hz => nomatch hz) dX8_checkArguments_15 (hlocks := C0.2.2.2.2.2.2)
abbrev rm0X8_checkState : Room := { frames := 0, cells := 0, slots := 0, locals := 0 }
set_option maxHeartbeats 4000000 in
set_option maxRecDepth 20000 in
theorem c0_X8_checkState (l : Launch) {a0 : Int32} (h : ¬ a0 = 0) : Met l yX8_checkState wsX8_checkState rm0X8_checkState (gk_Pn [.int a0]) (va_Qv (fun _ : Unit => True) gk_Bn gk_An) 0 0 gk_An := by
  refine Met.ofW (cc := cX8_checkState) (maxL := 1) (ret := none) (by decide) rfl ?_
  intro p e s m args below meth c s₁ B hml0 hv0
  obtain ⟨rfl, _⟩ := hv0
  have C0 : gk_F p s m ([.int a0] : List Value).toArray meth c cX8_checkState 1 none RX8 := ⟨B.exec, B.bytes, hml0, findClass_of_methodNamed B.named, fun w hw => atoms_spec (ws := wsX8_checkState) B.pre w (List.mem_cons_of_mem _ hw), B.returns, B.notSynchronized⟩
  obtain ⟨hx, hb, hml, hown, hts, hr, hlocks⟩ := id C0
  have hl0 := lv_entry ([.int a0]) (n := 1) (Nat.le_of_ble_eq_true rfl)
  rw [lg_entry_eq]
  generalize (lg_sl ([.int a0]) ++ List.replicate (1 - (lg_sl ([.int a0])).length) Slot.unset).toArray = ls at hl0 ⊢
  have hl0 : lv_has ls 1 [(0, .int a0)] := hl0
  show W p l e rm0X8_checkState s m _ below meth c s.heap [] 0 0 _ _
  refine lv_iload_n hx hb dX8_checkState_0 rfl (lv_at hl0 0 rfl) ?_
  refine lv_if_ne (tgt := 15) hx hb dX8_checkState_1 (by decide) (fun c1 => ?_) (fun c1 => absurd c1 h)
  exact W.vret C0.1 C0.2.1 C0.2.2.2.2.2.1 (fun t ht _ => ⟨⟨(), rfl, trivial, trivial⟩, va_S.rf.F ht⟩) (fun z hz => nomatch hz) dX8_checkState_15 (hlocks := C0.2.2.2.2.2.2)
theorem ac_int : Cond.arrayClass .int ∈ gk_BG := by decide +kernel
