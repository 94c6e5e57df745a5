/-! laid by wip/whole/model1.py: wp predicates and walks -/
def wL_X9_nears__8 (σ : gk_C) (k27 : Int32 → Int32 → (Nat → Int32) → Prop) : Nat → Int32 → Int32 → Int32 → (Nat → Int32) → Prop
  | 0 => fun _ _ _ _ => False
  | n + 1 => fun x3 x4 x5 fP1 => (((12 ≤ x5) → (k27 x3 x4 fP1)) ∧ ((¬ 12 ≤ x5) → (vp_in x5 12 ∧ wL_X9_nears__8 σ k27 n x3 x4 (x5 + 1) (upd fP1 x5.toNatClampNeg 99))))
def wL_X9_nears__41 (σ : gk_C) (k87 : Int32 → Int32 → Int32 → Int32 → (Nat → Int32) → Prop) : Nat → Int32 → Int32 → Int32 → Int32 → Int32 → (Nat → Int32) → Prop
  | 0 => fun _ _ _ _ _ _ => False
  | n + 1 => fun x3 x4 x5 x6 x7 fP1 => ((((σ.2 7) ≤ x7) → (k87 x3 x4 x5 x6 fP1)) ∧ ((¬ (σ.2 7) ≤ x7) → (((¬ ((x4 >>> (x7 &&& 31)) &&& 1) = 0) → (vp_in x7 12 ∧ vp_in x7 12 ∧ wL_X9_nears__41 σ k87 n x3 x4 x5 (x6 ||| (σ.1 8 x7.toNatClampNeg)) (x7 + 1) (upd fP1 x7.toNatClampNeg x5))) ∧ ((((x4 >>> (x7 &&& 31)) &&& 1) = 0) → (wL_X9_nears__41 σ k87 n x3 x4 x5 x6 (x7 + 1) fP1)))))
def wL_X9_nears__30 (σ : gk_C) (Q : (Nat → Int32) → Prop) : Nat → Int32 → Int32 → Int32 → (Nat → Int32) → Prop
  | 0 => fun _ _ _ _ => False
  | n + 1 => fun x3 x4 x5 fP1 => (((x4 = 0) → (Q fP1)) ∧ ((¬ x4 = 0) → (∃ n41, wL_X9_nears__41 σ (fun x3 x4 x5 x6 fP1 => (wL_X9_nears__30 σ Q n (x3 ||| x4) (x6 &&& ((x3 ||| x4) ^^^ (-1))) (x5 + 1) fP1)) n41 x3 x4 x5 0 0 fP1)))
def w_X9_nears_ (σ : gk_C) (a0 : Int32) (fP1 : Nat → Int32) (Q : (Nat → Int32) → Prop) : Prop := (∃ n8, wL_X9_nears__8 σ (fun x3 x4 fP1 => (∃ n30, wL_X9_nears__30 σ Q n30 x3 x4 1 fP1)) n8 0 a0 0 fP1)
abbrev rmX9_nears_ : Room := { frames := 0, cells := 0, slots := 0, locals := 0 }
set_option maxHeartbeats 4000000 in
set_option maxRecDepth 100000 in
theorem tL_X9_nears__8 {p : Program} {l : Launch} {e : Env} {s : State} {m : MethodId} {args : Array Value} {below : List Frame} {meth : Method} {c : Code} {D : va_G} {cI cZ cG cL : ClassId} {am : Nat → Nat} {qP1 : Nat} (C0 : gk_F p s m args meth c cX9_nears_ 8 (some (.array .int)) RX9) (hK : gk_K D cI cZ cG cL s) (hne : qP1 ≠ am 38 ∧ qP1 ≠ am 8) {σ : gk_C} {Q : (Nat → Int32) → Prop} {k27 : Int32 → Int32 → (Nat → Int32) → Prop} (hk27 : ∀ (x3 : Int32) (x4 : Int32) (fP1 : Nat → Int32), k27 x3 x4 fP1 → ∀ (H : Heap) (locs : List Loc), mk_NW D cI am σ H → va_S (fun z => z = qP1) s.heap H locs → va_at D vwCl (qP1, .inl (cI, (12, .inl fP1))) H → ∀ (ls : Array Slot), lv_has ls 8 [(0, .ref (am 38)), (2, .ref qP1), (3, .int x3), (4, .int x4)] → W p l e rmX9_nears_ s m args below meth c H locs 0 0 (MQ below (mk_QN D cI qP1 Q) args s 0 0 (fun z => z = qP1)) (F0 m 27 ls [])) : ∀ (n : Nat) (x3 : Int32) (x4 : Int32) (x5 : Int32) (fP1 : Nat → Int32), wL_X9_nears__8 σ k27 n x3 x4 x5 fP1 → ∀ (H : Heap) (locs : List Loc), mk_NW D cI am σ H → va_S (fun z => z = qP1) s.heap H locs → va_at D vwCl (qP1, .inl (cI, (12, .inl fP1))) H → ∀ (ls : Array Slot), lv_has ls 8 [(0, .ref (am 38)), (2, .ref qP1), (3, .int x3), (4, .int x4), (5, .int x5)] → W p l e rmX9_nears_ s m args below meth c H locs 0 0 (MQ below (mk_QN D cI qP1 Q) args s 0 0 (fun z => z = qP1)) (F0 m 8 ls []) := by
  obtain ⟨hx, hb, hml, hown, hts, hr, hlocks⟩ := id C0
  intro n
  induction n with
  | zero => exact fun _ _ _ _ hw => False.elim hw
  | succ n ih =>
    intro x3 x4 x5 fP1 hw H locs hW hS hdP1 ls hl
    refine lv_iload hx hb dX9_nears__8 (lv_at hl 4 rfl) ?_
    refine lv_bipush (v := 12) hx hb dX9_nears__10 (by decide) ?_
    refine lv_icmp_ge (tgt := 27) hx hb dX9_nears__12 (by decide) (fun c12 => ?_) (fun c12 => ?_)
    · have hw := hw.1 c12
      exact hk27 x3 x4 fP1 hw _ _ hW hS hdP1 _ (lv_sub hl [0, 1, 2, 3] rfl)
    · have hw := hw.2 c12
      refine lv_aload_n hx hb dX9_nears__15 rfl (lv_at hl 1 rfl) ?_
      refine lv_iload hx hb dX9_nears__16 (lv_at hl 4 rfl) ?_
      refine lv_bipush (v := 99) hx hb dX9_nears__18 (by decide) ?_
      obtain ⟨hin, hw⟩ := hw
      refine gk_iast hx hb hK.1 hS rfl 0 hdP1 rfl hin dX9_nears__20 (fun H locs h1 _ oq hS => ?_)
      have hW := mk_NW.oq hW hne oq
      have hdP1 := h1
      refine lv_iinc (v := (x5 + 1)) (lv' := [(5, .int (x5 + 1)), (0, .ref (am 38)), (2, .ref qP1), (3, .int x3), (4, .int x4)]) hx hb dX9_nears__21 hl (k := 4) rfl rfl (by decide) rfl (fun ls hl => ?_)
      refine lv_goto (tgt := 8) hx hb dX9_nears__24 (by decide) ?_
      exact ih x3 x4 (x5 + 1) (upd fP1 x5.toNatClampNeg 99) hw _ _ hW hS hdP1 _ (lv_sub hl [1, 2, 3, 4, 0] rfl)
set_option maxHeartbeats 4000000 in
set_option maxRecDepth 100000 in
theorem tL_X9_nears__41 {p : Program} {l : Launch} {e : Env} {s : State} {m : MethodId} {args : Array Value} {below : List Frame} {meth : Method} {c : Code} {D : va_G} {cI cZ cG cL : ClassId} {am : Nat → Nat} {qP1 : Nat} (C0 : gk_F p s m args meth c cX9_nears_ 8 (some (.array .int)) RX9) (hK : gk_K D cI cZ cG cL s) (hne : qP1 ≠ am 38 ∧ qP1 ≠ am 8) {σ : gk_C} {Q : (Nat → Int32) → Prop} {k87 : Int32 → Int32 → Int32 → Int32 → (Nat → Int32) → Prop} (hk87 : ∀ (x3 : Int32) (x4 : Int32) (x5 : Int32) (x6 : Int32) (fP1 : Nat → Int32), k87 x3 x4 x5 x6 fP1 → ∀ (H : Heap) (locs : List Loc), mk_NW D cI am σ H → va_S (fun z => z = qP1) s.heap H locs → va_at D vwCl (qP1, .inl (cI, (12, .inl fP1))) H → ∀ (ls : Array Slot), lv_has ls 8 [(0, .ref (am 38)), (2, .ref qP1), (3, .int x3), (4, .int x4), (5, .int x5), (6, .int x6)] → W p l e rmX9_nears_ s m args below meth c H locs 0 0 (MQ below (mk_QN D cI qP1 Q) args s 0 0 (fun z => z = qP1)) (F0 m 87 ls [])) : ∀ (n : Nat) (x3 : Int32) (x4 : Int32) (x5 : Int32) (x6 : Int32) (x7 : Int32) (fP1 : Nat → Int32), wL_X9_nears__41 σ k87 n x3 x4 x5 x6 x7 fP1 → ∀ (H : Heap) (locs : List Loc), mk_NW D cI am σ H → va_S (fun z => z = qP1) s.heap H locs → va_at D vwCl (qP1, .inl (cI, (12, .inl fP1))) H → ∀ (ls : Array Slot), lv_has ls 8 [(0, .ref (am 38)), (2, .ref qP1), (3, .int x3), (4, .int x4), (5, .int x5), (6, .int x6), (7, .int x7)] → W p l e rmX9_nears_ s m args below meth c H locs 0 0 (MQ below (mk_QN D cI qP1 Q) args s 0 0 (fun z => z = qP1)) (F0 m 41 ls []) := by
  obtain ⟨hx, hb, hml, hown, hts, hr, hlocks⟩ := id C0
  intro n
  induction n with
  | zero => exact fun _ _ _ _ _ _ hw => False.elim hw
  | succ n ih =>
    intro x3 x4 x5 x6 x7 fP1 hw H locs hW hS hdP1 ls hl
    refine lv_iload hx hb dX9_nears__41 (lv_at hl 6 rfl) ?_
    refine lv_aload_n hx hb dX9_nears__43 rfl (lv_at hl 0 rfl) ?_
    refine gk_get hx hb hts iwX9 hown hK.1 hW.1 rfl 7 (by decide) (hts _ fl_X9_112) (fun _ h9 => h9) rfl dX9_nears__44 ?_
    refine lv_icmp_ge (tgt := 87) hx hb dX9_nears__47 (by decide) (fun c47 => ?_) (fun c47 => ?_)
    · have hw := hw.1 c47
      exact hk87 x3 x4 x5 x6 fP1 hw _ _ hW hS hdP1 _ (lv_sub hl [0, 1, 2, 3, 4, 5] rfl)
    · have hw := hw.2 c47
      refine lv_iload hx hb dX9_nears__50 (lv_at hl 3 rfl) ?_
      refine lv_iload hx hb dX9_nears__52 (lv_at hl 6 rfl) ?_
      refine lv_ishr hx hb dX9_nears__54 ?_
      refine lv_iconst (v := 1) hx hb dX9_nears__55 (by decide) ?_
      refine lv_iand hx hb dX9_nears__56 ?_
      refine lv_if_ne (tgt := 63) hx hb dX9_nears__57 (by decide) (fun c57 => ?_) (fun c57 => ?_)
      · have hw := hw.1 c57
        refine lv_aload_n hx hb dX9_nears__63 rfl (lv_at hl 1 rfl) ?_
        refine lv_iload hx hb dX9_nears__64 (lv_at hl 6 rfl) ?_
        refine lv_iload hx hb dX9_nears__66 (lv_at hl 4 rfl) ?_
        obtain ⟨hin, hw⟩ := hw
        refine gk_iast hx hb hK.1 hS rfl 0 hdP1 rfl hin dX9_nears__68 (fun H locs h1 _ oq hS => ?_)
        have hW := mk_NW.oq hW hne oq
        have hdP1 := h1
        refine lv_iload hx hb dX9_nears__69 (lv_at hl 5 rfl) ?_
        refine lv_aload_n hx hb dX9_nears__71 rfl (lv_at hl 0 rfl) ?_
        refine gk_get hx hb hts iwX9 hown hK.1 hW.1 rfl 8 (by decide) (hts _ fl_X9_19) (fun _ h9 => h9) rfl dX9_nears__72 ?_
        refine lv_iload hx hb dX9_nears__75 (lv_at hl 6 rfl) ?_
        obtain ⟨hin, hw⟩ := hw
        refine gk_iald hx hb hK.1 0 hW.2 rfl hin dX9_nears__77 ?_
        refine lv_ior hx hb dX9_nears__78 ?_
        refine lv_istore (lv' := [(6, .int (x6 ||| (σ.1 8 x7.toNatClampNeg))), (0, .ref (am 38)), (2, .ref qP1), (3, .int x3), (4, .int x4), (5, .int x5), (7, .int x7)]) hx hb dX9_nears__79 hl (by decide) rfl (fun ls hl => ?_)
        refine lv_iinc (v := (x7 + 1)) (lv' := [(7, .int (x7 + 1)), (6, .int (x6 ||| (σ.1 8 x7.toNatClampNeg))), (0, .ref (am 38)), (2, .ref qP1), (3, .int x3), (4, .int x4), (5, .int x5)]) hx hb dX9_nears__81 hl (k := 6) rfl rfl (by decide) rfl (fun ls hl => ?_)
        refine lv_goto (tgt := 41) hx hb dX9_nears__84 (by decide) ?_
        exact ih x3 x4 x5 (x6 ||| (σ.1 8 x7.toNatClampNeg)) (x7 + 1) (upd fP1 x7.toNatClampNeg x5) hw _ _ hW hS hdP1 _ (lv_sub hl [2, 3, 4, 5, 6, 1, 0] rfl)
      · have hw := hw.2 c57
        refine lv_goto (tgt := 81) hx hb dX9_nears__60 (by decide) ?_
        refine lv_iinc (v := (x7 + 1)) (lv' := [(7, .int (x7 + 1)), (0, .ref (am 38)), (2, .ref qP1), (3, .int x3), (4, .int x4), (5, .int x5), (6, .int x6)]) hx hb dX9_nears__81 hl (k := 6) rfl rfl (by decide) rfl (fun ls hl => ?_)
        refine lv_goto (tgt := 41) hx hb dX9_nears__84 (by decide) ?_
        exact ih x3 x4 x5 x6 (x7 + 1) fP1 hw _ _ hW hS hdP1 _ (lv_sub hl [1, 2, 3, 4, 5, 6, 0] rfl)
set_option maxHeartbeats 4000000 in
set_option maxRecDepth 100000 in
theorem tL_X9_nears__30 {p : Program} {l : Launch} {e : Env} {s : State} {m : MethodId} {args : Array Value} {below : List Frame} {meth : Method} {c : Code} {D : va_G} {cI cZ cG cL : ClassId} {am : Nat → Nat} {qP1 : Nat} (C0 : gk_F p s m args meth c cX9_nears_ 8 (some (.array .int)) RX9) (hK : gk_K D cI cZ cG cL s) (hne : qP1 ≠ am 38 ∧ qP1 ≠ am 8) {σ : gk_C} {Q : (Nat → Int32) → Prop} : ∀ (n : Nat) (x3 : Int32) (x4 : Int32) (x5 : Int32) (fP1 : Nat → Int32), wL_X9_nears__30 σ Q n x3 x4 x5 fP1 → ∀ (H : Heap) (locs : List Loc), mk_NW D cI am σ H → va_S (fun z => z = qP1) s.heap H locs → va_at D vwCl (qP1, .inl (cI, (12, .inl fP1))) H → ∀ (ls : Array Slot), lv_has ls 8 [(0, .ref (am 38)), (2, .ref qP1), (3, .int x3), (4, .int x4), (5, .int x5)] → W p l e rmX9_nears_ s m args below meth c H locs 0 0 (MQ below (mk_QN D cI qP1 Q) args s 0 0 (fun z => z = qP1)) (F0 m 30 ls []) := by
  obtain ⟨hx, hb, hml, hown, hts, hr, hlocks⟩ := id C0
  intro n
  induction n with
  | zero => exact fun _ _ _ _ hw => False.elim hw
  | succ n ih =>
    intro x3 x4 x5 fP1 hw H locs hW hS hdP1 ls hl
    refine lv_iload hx hb dX9_nears__30 (lv_at hl 3 rfl) ?_
    refine lv_if_eq (tgt := 106) hx hb dX9_nears__32 (by decide) (fun c32 => ?_) (fun c32 => ?_)
    · have hw := hw.1 c32
      refine lv_aload_n hx hb dX9_nears__106 rfl (lv_at hl 1 rfl) ?_
      exact W.aret (v := .ref qP1) C0.1 C0.2.1 C0.2.2.2.2.2.1 (Or.inr ⟨_, rfl⟩) (Or.inr ⟨_, rfl⟩) (fun t ht _ => ⟨⟨_, qP1, rfl, hw, rfl, by rw [ht]; exact hdP1⟩, hS.F ht⟩) hS.2.2 dX9_nears__107 (hlocks := hlocks)
    · have hw := hw.2 c32
      refine lv_iconst (v := 0) hx hb dX9_nears__35 (by decide) ?_
      refine lv_istore (lv' := [(6, .int 0), (0, .ref (am 38)), (2, .ref qP1), (3, .int x3), (4, .int x4), (5, .int x5)]) hx hb dX9_nears__36 hl (by decide) rfl (fun ls hl => ?_)
      refine lv_iconst (v := 0) hx hb dX9_nears__38 (by decide) ?_
      refine lv_istore (lv' := [(7, .int 0), (6, .int 0), (0, .ref (am 38)), (2, .ref qP1), (3, .int x3), (4, .int x4), (5, .int x5)]) hx hb dX9_nears__39 hl (by decide) rfl (fun ls hl => ?_)
      obtain ⟨n41, hw⟩ := hw
      refine tL_X9_nears__41 C0 hK hne (hk87 := ?_) n41 x3 x4 x5 0 0 fP1 hw _ _ hW hS hdP1 _ (lv_sub hl [2, 3, 4, 5, 6, 1, 0] rfl)
      · intro x3 x4 x5 x6 fP1 hw H locs hW hS hdP1 ls hl
        refine lv_iload_n hx hb dX9_nears__87 rfl (lv_at hl 2 rfl) ?_
        refine lv_iload hx hb dX9_nears__88 (lv_at hl 3 rfl) ?_
        refine lv_ior hx hb dX9_nears__90 ?_
        refine lv_istore_n (lv' := [(3, .int (x3 ||| x4)), (0, .ref (am 38)), (2, .ref qP1), (4, .int x4), (5, .int x5), (6, .int x6)]) hx hb dX9_nears__91 rfl hl (by decide) rfl (fun ls hl => ?_)
        refine lv_iload hx hb dX9_nears__92 (lv_at hl 5 rfl) ?_
        refine lv_iload_n hx hb dX9_nears__94 rfl (lv_at hl 0 rfl) ?_
        refine lv_iconst (v := (-1)) hx hb dX9_nears__95 (by decide) ?_
        refine lv_ixor hx hb dX9_nears__96 ?_
        refine lv_iand hx hb dX9_nears__97 ?_
        refine lv_istore (lv' := [(4, .int (x6 &&& ((x3 ||| x4) ^^^ (-1)))), (3, .int (x3 ||| x4)), (0, .ref (am 38)), (2, .ref qP1), (5, .int x5), (6, .int x6)]) hx hb dX9_nears__98 hl (by decide) rfl (fun ls hl => ?_)
        refine lv_iinc (v := (x5 + 1)) (lv' := [(5, .int (x5 + 1)), (4, .int (x6 &&& ((x3 ||| x4) ^^^ (-1)))), (3, .int (x3 ||| x4)), (0, .ref (am 38)), (2, .ref qP1), (6, .int x6)]) hx hb dX9_nears__100 hl (k := 4) rfl rfl (by decide) rfl (fun ls hl => ?_)
        refine lv_goto (tgt := 30) hx hb dX9_nears__103 (by decide) ?_
        exact ih (x3 ||| x4) (x6 &&& ((x3 ||| x4) ^^^ (-1))) (x5 + 1) fP1 hw _ _ hW hS hdP1 _ (lv_sub hl [3, 4, 2, 1, 0] rfl)
set_option maxHeartbeats 4000000 in
set_option maxRecDepth 100000 in
theorem c_X9_nears_ (l : Launch) (D : va_G) (cI cZ cG cL : ClassId) (am : Nat → Nat) {σ : gk_C} {a0 : Int32} {fP1 : Nat → Int32} {qP1 : Nat} (hne : qP1 ≠ am 38 ∧ qP1 ≠ am 8) {Q : (Nat → Int32) → Prop} (hw : w_X9_nears_ σ a0 fP1 Q) : Met l yX9_nears_ wsX9_nears_ rmX9_nears_ (mk_PN D cI cZ cG cL am a0 qP1 fP1 σ) (mk_QN D cI qP1 Q) 0 0 (fun z => z = qP1) := by
  refine Met.ofW (cc := cX9_nears_) (maxL := 8) (ret := (some (.array .int))) (by decide) rfl ?_
  intro p e s m args below meth c s₁ B hml0 hv0
  obtain ⟨rfl, hW, hdP1, hK⟩ := hv0
  have C0 : gk_F p s m ([.ref (am 38), .int a0, .ref qP1] : List Value).toArray meth c cX9_nears_ 8 (some (.array .int)) RX9 := ⟨B.exec, B.bytes, hml0, findClass_of_methodNamed B.named, fun w hw => atoms_spec (ws := wsX9_nears_) B.pre w (List.mem_cons_of_mem _ hw), B.returns, B.notSynchronized⟩
  obtain ⟨hx, hb, hml, hown, hts, hr, hlocks⟩ := id C0
  have hS : va_S (fun z => z = qP1) s.heap s.heap [] := va_S.rf
  have hl := lv_entry ([.ref (am 38), .int a0, .ref qP1]) (n := 8) (Nat.le_of_ble_eq_true rfl)
  rw [lg_entry_eq]
  generalize (lg_sl ([.ref (am 38), .int a0, .ref qP1]) ++ List.replicate (8 - (lg_sl ([.ref (am 38), .int a0, .ref qP1])).length) Slot.unset).toArray = ls at hl ⊢
  have hl : lv_has ls 8 [(0, .ref (am 38)), (1, .int a0), (2, .ref qP1)] := hl
  show W p l e rmX9_nears_ s m _ below meth c s.heap [] 0 0 _ _
  refine lv_iconst (v := 0) hx hb dX9_nears__0 (by decide) ?_
  refine lv_istore_n (lv' := [(3, .int 0), (0, .ref (am 38)), (1, .int a0), (2, .ref qP1)]) hx hb dX9_nears__1 rfl hl (by decide) rfl (fun ls hl => ?_)
  refine lv_iload_n hx hb dX9_nears__2 rfl (lv_at hl 2 rfl) ?_
  refine lv_istore (lv' := [(4, .int a0), (3, .int 0), (0, .ref (am 38)), (1, .int a0), (2, .ref qP1)]) hx hb dX9_nears__3 hl (by decide) rfl (fun ls hl => ?_)
  refine lv_iconst (v := 0) hx hb dX9_nears__5 (by decide) ?_
  refine lv_istore (lv' := [(5, .int 0), (4, .int a0), (3, .int 0), (0, .ref (am 38)), (1, .int a0), (2, .ref qP1)]) hx hb dX9_nears__6 hl (by decide) rfl (fun ls hl => ?_)
  obtain ⟨n8, hw⟩ := hw
  refine tL_X9_nears__8 C0 hK hne (hk27 := ?_) n8 0 a0 0 fP1 hw _ _ hW hS hdP1 _ (lv_sub hl [3, 5, 2, 1, 0] rfl)
  · intro x3 x4 fP1 hw H locs hW hS hdP1 ls hl
    refine lv_iconst (v := 1) hx hb dX9_nears__27 (by decide) ?_
    refine lv_istore (lv' := [(5, .int 1), (0, .ref (am 38)), (2, .ref qP1), (3, .int x3), (4, .int x4)]) hx hb dX9_nears__28 hl (by decide) rfl (fun ls hl => ?_)
    obtain ⟨n30, hw⟩ := hw
    refine tL_X9_nears__30 C0 hK hne  n30 x3 x4 1 fP1 hw _ _ hW hS hdP1 _ (lv_sub hl [1, 2, 3, 4, 0] rfl)
def w_X9_nears (σ : gk_C) (a0 : Int32) (Q : (Nat → Int32) → Prop) : Prop := (w_X9_nears_ σ a0 (fun _ => 0) (fun fr6 => Q fr6))
abbrev rmX9_nears : Room := { frames := 1, cells := 1, slots := 12, locals := 27 }
set_option maxHeartbeats 4000000 in
set_option maxRecDepth 100000 in
theorem c_X9_nears (l : Launch) (D : va_G) (cI cZ cG cL : ClassId) (am : Nat → Nat) {σ : gk_C} {a0 : Int32} {Q : (Nat → Int32) → Prop} {sz : Nat} (hw : w_X9_nears σ a0 Q) : Met l yX9_nears wsX9_nears rmX9_nears (mk_Pc (mk_V D cI cZ am) D cI cZ cG cL [.ref (am 38), .int a0] sz σ (fun _ => True)) (va_Qr (fun (u : gk_C × (Nat → Int32)) => u.1 = σ ∧ Q u.2) (fun u a t => mk_V D cI cZ am u.1 t.heap ∧ mk_D D cI am a 12 u.2 t.heap ∧ sz ≤ a) (mk_A am sz)) 1 12 (mk_A am sz) := by
  refine Met.ofW (cc := cX9_nears) (maxL := 2) (ret := (some (.array .int))) (by decide) rfl ?_
  intro p e s m args below meth c s₁ B hml0 hv0
  obtain ⟨rfl, hsz, hW, hK, hX⟩ := hv0
  subst hsz
  have C0 : gk_F p s m ([.ref (am 38), .int a0] : List Value).toArray meth c cX9_nears 2 (some (.array .int)) RX9 := ⟨B.exec, B.bytes, hml0, findClass_of_methodNamed B.named, fun w hw => atoms_spec (ws := wsX9_nears) B.pre w (List.mem_cons_of_mem _ hw), B.returns, B.notSynchronized⟩
  obtain ⟨hx, hb, hml, hown, hts, hr, hlocks⟩ := id C0
  have hS : va_S (mk_A am s.heap.size) s.heap s.heap [] := va_S.rf
  have hl := lv_entry ([.ref (am 38), .int a0]) (n := 2) (Nat.le_of_ble_eq_true rfl)
  rw [lg_entry_eq]
  generalize (lg_sl ([.ref (am 38), .int a0]) ++ List.replicate (2 - (lg_sl ([.ref (am 38), .int a0])).length) Slot.unset).toArray = ls at hl ⊢
  have hl : lv_has ls 2 [(0, .ref (am 38)), (1, .int a0)] := hl
  show W p l e rmX9_nears s m _ below meth c s.heap [] 0 0 _ _
  refine lv_aload_n hx hb dX9_nears_0 rfl (lv_at hl 0 rfl) ?_
  refine lv_iload_n hx hb dX9_nears_1 rfl (lv_at hl 1 rfl) ?_
  refine lv_bipush (v := 12) hx hb dX9_nears_2 (by decide) ?_
  refine mk_newi (N' := 12) hx hb (hts _ ac_int) hK (fun k hk => hW.lt hk) hS (by decide) rfl (by decide) ⟨Nat.le_of_ble_eq_true rfl, Nat.le_of_ble_eq_true rfl⟩ dX9_nears_4 (fun qn4 H hdn4 hqn4 hgn4 hk hS => ?_)
  have hW := hW.keptAll hk
  refine mk_callN ⟨hx, hb, hml, hown, hts⟩ (c_X9_nears_ l D cI cZ cG cL am ⟨hdn4.2 38 (by decide), hdn4.2 8 (by decide)⟩ hw) (cwV 2 hts (gk_gV ml_X9_125 im_X9_nears_ se_X9_nears_ in_X9 co_X9_nears_) rfl rfl rfl (by decide +kernel) ⟨Nat.le_of_ble_eq_true rfl, Nat.le_of_ble_eq_true rfl⟩) hW.NW hdn4.1 hK hS (Or.inr hgn4) hl.1 (rest := []) (lv_room (Nat.le_of_ble_eq_true rfl)) dX9_nears_6 ⟨Nat.le_of_ble_eq_true rfl, Nat.le_of_ble_eq_true rfl⟩ (fun fr6 H locs hw h1 hk _ hS => ?_)
  have hW := hW.keptK hdn4.2 hk
  have hdn4 : mk_D D cI am qn4 12 fr6 H := ⟨h1, hdn4.2⟩
  refine W.widen (k := 1) (n := 12) (Nat.le_of_ble_eq_true rfl) (Nat.le_of_ble_eq_true rfl) ?_
  exact mk_reta (σ, fr6) C0 (Or.inr ⟨_, rfl⟩) ⟨rfl, hw⟩ (fun t ht => by subst ht; exact ⟨hW, hdn4, hgn4⟩) hS dX9_nears_9
def wJ_X9_had_42 (k15 : gk_C → Int32 → Int32 → Prop) (σ : gk_C) (x4 : Int32) (t0 : Int32) (t1 : Int32) : Prop := (k15 σ (t0 ||| t1) (x4 + 1))
def wL_X9_had_15 (Q : Int32 → gk_C → Prop) : Nat → gk_C → Int32 → Int32 → Prop
  | 0 => fun _ _ _ => False
  | n + 1 => fun σ x3 x4 => ((((σ.2 7) ≤ x4) → (Q x3 σ)) ∧ ((¬ (σ.2 7) ≤ x4) → (vp_in x4 12 ∧ ((99 ≤ (σ.1 36 x4.toNatClampNeg)) → (wJ_X9_had_42 (fun σ x3 x4 => wL_X9_had_15 Q n σ x3 x4) σ x4 x3 0)) ∧ ((¬ 99 ≤ (σ.1 36 x4.toNatClampNeg)) → (wJ_X9_had_42 (fun σ x3 x4 => wL_X9_had_15 Q n σ x3 x4) σ x4 x3 (1 <<< (x4 &&& 31)))))))
def w_X9_had (σ : gk_C) (a0 : Int32) (Q : Int32 → gk_C → Prop) : Prop := (w_X9_nears_ σ a0 (σ.1 36) (fun fr6 => ∃ n15, wL_X9_had_15 Q n15 (gk_r σ 36 fr6) 0 0))
abbrev rmX9_had : Room := { frames := 1, cells := 0, slots := 0, locals := 27 }
set_option maxHeartbeats 4000000 in
set_option maxRecDepth 100000 in
theorem tJ_X9_had_42 {p : Program} {l : Launch} {e : Env} {s : State} {m : MethodId} {args : Array Value} {below : List Frame} {meth : Method} {c : Code} {D : va_G} {cI cZ cG cL : ClassId} {am : Nat → Nat} (C0 : gk_F p s m args meth c cX9_had 5 (some .int) RX9) (hK : gk_K D cI cZ cG cL s) {Q : Int32 → gk_C → Prop} {k15 : gk_C → Int32 → Int32 → Prop} (hk15 : ∀ (σ : gk_C) (x3 : Int32) (x4 : Int32), k15 σ x3 x4 → ∀ (H : Heap) (locs : List Loc), mk_W D cI cZ am σ H → va_S (mk_A am s.heap.size) s.heap H locs → ∀ (ls : Array Slot), lv_has ls 5 [(0, .ref (am 38)), (2, .ref (am 36)), (3, .int x3), (4, .int x4)] → W p l e rmX9_had s m args below meth c H locs 0 0 (MQ below (va_Qi (fun r u => Q r u) (mk_B (mk_W D cI cZ am)) (mk_A am s.heap.size)) args s 0 0 (mk_A am s.heap.size)) (F0 m 15 ls [])) : ∀ (σ : gk_C) (x4 : Int32) (t0 : Int32) (t1 : Int32), wJ_X9_had_42 k15 σ x4 t0 t1 → ∀ (H : Heap) (locs : List Loc), mk_W D cI cZ am σ H → va_S (mk_A am s.heap.size) s.heap H locs → ∀ (ls : Array Slot), lv_has ls 5 [(0, .ref (am 38)), (2, .ref (am 36)), (4, .int x4)] → W p l e rmX9_had s m args below meth c H locs 0 0 (MQ below (va_Qi (fun r u => Q r u) (mk_B (mk_W D cI cZ am)) (mk_A am s.heap.size)) args s 0 0 (mk_A am s.heap.size)) (F0 m 42 ls [.int t1, .int t0]) := by
  obtain ⟨hx, hb, hml, hown, hts, hr, hlocks⟩ := id C0
  intro σ x4 t0 t1 hw H locs hW hS  ls hl
  refine lv_ior hx hb dX9_had_42 ?_
  refine lv_istore_n (lv' := [(3, .int (t0 ||| t1)), (0, .ref (am 38)), (2, .ref (am 36)), (4, .int x4)]) hx hb dX9_had_43 rfl hl (by decide) rfl (fun ls hl => ?_)
  refine lv_iinc (v := (x4 + 1)) (lv' := [(4, .int (x4 + 1)), (3, .int (t0 ||| t1)), (0, .ref (am 38)), (2, .ref (am 36))]) hx hb dX9_had_44 hl (k := 3) rfl rfl (by decide) rfl (fun ls hl => ?_)
  refine lv_goto (tgt := 15) hx hb dX9_had_47 (by decide) ?_
  exact hk15 σ (t0 ||| t1) (x4 + 1) hw _ _ hW hS  _ (lv_sub hl [2, 3, 1, 0] rfl)
set_option maxHeartbeats 4000000 in
set_option maxRecDepth 100000 in
theorem tL_X9_had_15 {p : Program} {l : Launch} {e : Env} {s : State} {m : MethodId} {args : Array Value} {below : List Frame} {meth : Method} {c : Code} {D : va_G} {cI cZ cG cL : ClassId} {am : Nat → Nat} (C0 : gk_F p s m args meth c cX9_had 5 (some .int) RX9) (hK : gk_K D cI cZ cG cL s) {Q : Int32 → gk_C → Prop} : ∀ (n : Nat) (σ : gk_C) (x3 : Int32) (x4 : Int32), wL_X9_had_15 Q n σ x3 x4 → ∀ (H : Heap) (locs : List Loc), mk_W D cI cZ am σ H → va_S (mk_A am s.heap.size) s.heap H locs → ∀ (ls : Array Slot), lv_has ls 5 [(0, .ref (am 38)), (2, .ref (am 36)), (3, .int x3), (4, .int x4)] → W p l e rmX9_had s m args below meth c H locs 0 0 (MQ below (va_Qi (fun r u => Q r u) (mk_B (mk_W D cI cZ am)) (mk_A am s.heap.size)) args s 0 0 (mk_A am s.heap.size)) (F0 m 15 ls []) := by
  obtain ⟨hx, hb, hml, hown, hts, hr, hlocks⟩ := id C0
  intro n
  induction n with
  | zero => exact fun _ _ _ hw => False.elim hw
  | succ n ih =>
    intro σ x3 x4 hw H locs hW hS  ls hl
    refine lv_iload hx hb dX9_had_15 (lv_at hl 3 rfl) ?_
    refine lv_aload_n hx hb dX9_had_17 rfl (lv_at hl 0 rfl) ?_
    refine gk_get hx hb hts iwX9 hown hK.1 (mk_objW hW) rfl 7 (by decide) (hts _ fl_X9_112) (fun _ h9 => h9) rfl dX9_had_18 ?_
    refine lv_icmp_ge (tgt := 50) hx hb dX9_had_21 (by decide) (fun c21 => ?_) (fun c21 => ?_)
    · have hw := hw.1 c21
      refine lv_iload_n hx hb dX9_had_50 rfl (lv_at hl 2 rfl) ?_
      refine W.widen (k := 0) (n := 0) (Nat.le_of_ble_eq_true rfl) (Nat.le_of_ble_eq_true rfl) ?_
      exact mk_reti C0 hw hW hS dX9_had_51
    · have hw := hw.2 c21
      refine lv_iload_n hx hb dX9_had_24 rfl (lv_at hl 2 rfl) ?_
      refine lv_aload_n hx hb dX9_had_25 rfl (lv_at hl 1 rfl) ?_
      refine lv_iload hx hb dX9_had_26 (lv_at hl 3 rfl) ?_
      obtain ⟨hin, hw⟩ := hw
      refine gk_iald hx hb hK.1 0 (mk_arrW hW (k := 36) (by decide)) rfl hin dX9_had_28 ?_
      refine lv_bipush (v := 99) hx hb dX9_had_29 (by decide) ?_
      refine lv_icmp_ge (tgt := 41) hx hb dX9_had_31 (by decide) (fun c31 => ?_) (fun c31 => ?_)
      · have hw := hw.1 c31
        refine lv_iconst (v := 0) hx hb dX9_had_41 (by decide) ?_
        refine tJ_X9_had_42 C0 hK (hk15 := ih) σ x4 x3 0 hw _ _ hW hS  _ (lv_sub hl [0, 1, 3] rfl)
      · have hw := hw.2 c31
        refine lv_iconst (v := 1) hx hb dX9_had_34 (by decide) ?_
        refine lv_iload hx hb dX9_had_35 (lv_at hl 3 rfl) ?_
        refine lv_ishl hx hb dX9_had_37 ?_
        refine lv_goto (tgt := 42) hx hb dX9_had_38 (by decide) ?_
        refine tJ_X9_had_42 C0 hK (hk15 := ih) σ x4 x3 (1 <<< (x4 &&& 31)) hw _ _ hW hS  _ (lv_sub hl [0, 1, 3] rfl)
set_option maxHeartbeats 4000000 in
set_option maxRecDepth 100000 in
theorem c_X9_had (l : Launch) (D : va_G) (cI cZ cG cL : ClassId) (am : Nat → Nat) {σ : gk_C} {a0 : Int32} {Q : Int32 → gk_C → Prop} {sz : Nat} (hw : w_X9_had σ a0 Q) : Met l yX9_had wsX9_had rmX9_had (mk_Pc (mk_W D cI cZ am) D cI cZ cG cL [.ref (am 38), .int a0] sz σ (fun _ => True)) (va_Qi (fun r u => Q r u) (mk_B (mk_W D cI cZ am)) (mk_A am sz)) 0 0 (mk_A am sz) := by
  refine Met.ofW (cc := cX9_had) (maxL := 5) (ret := (some .int)) (by decide) rfl ?_
  intro p e s m args below meth c s₁ B hml0 hv0
  obtain ⟨rfl, hsz, hW, hK, hX⟩ := hv0
  subst hsz
  have C0 : gk_F p s m ([.ref (am 38), .int a0] : List Value).toArray meth c cX9_had 5 (some .int) RX9 := ⟨B.exec, B.bytes, hml0, findClass_of_methodNamed B.named, fun w hw => atoms_spec (ws := wsX9_had) B.pre w (List.mem_cons_of_mem _ hw), B.returns, B.notSynchronized⟩
  obtain ⟨hx, hb, hml, hown, hts, hr, hlocks⟩ := id C0
  have hS : va_S (mk_A am s.heap.size) s.heap s.heap [] := va_S.rf
  have hl := lv_entry ([.ref (am 38), .int a0]) (n := 5) (Nat.le_of_ble_eq_true rfl)
  rw [lg_entry_eq]
  generalize (lg_sl ([.ref (am 38), .int a0]) ++ List.replicate (5 - (lg_sl ([.ref (am 38), .int a0])).length) Slot.unset).toArray = ls at hl ⊢
  have hl : lv_has ls 5 [(0, .ref (am 38)), (1, .int a0)] := hl
  show W p l e rmX9_had s m _ below meth c s.heap [] 0 0 _ _
  refine lv_aload_n hx hb dX9_had_0 rfl (lv_at hl 0 rfl) ?_
  refine lv_iload_n hx hb dX9_had_1 rfl (lv_at hl 1 rfl) ?_
  refine lv_aload_n hx hb dX9_had_2 rfl (lv_at hl 0 rfl) ?_
  refine gk_get hx hb hts iwX9 hown hK.1 (mk_objW hW) rfl 36 (by decide) (hts _ fl_X9_96) (fun _ h9 => h9) rfl dX9_had_3 ?_
  refine mk_callN ⟨hx, hb, hml, hown, hts⟩ (c_X9_nears_ l D cI cZ cG cL am ⟨fun e => absurd (hW.1 36 38 (by decide) (by decide) e) (by decide), fun e => absurd (hW.1 36 8 (by decide) (by decide) e) (by decide)⟩ hw) (cwV 2 hts (gk_gV ml_X9_125 im_X9_nears_ se_X9_nears_ in_X9 co_X9_nears_) rfl rfl rfl (by decide +kernel) ⟨Nat.le_of_ble_eq_true rfl, Nat.le_of_ble_eq_true rfl⟩) hW.NW (mk_arrW hW (k := 36) (by decide)) hK hS (mk_A.in (by decide)) hl.1 (rest := []) (lv_room (Nat.le_of_ble_eq_true rfl)) dX9_had_6 ⟨Nat.le_of_ble_eq_true rfl, Nat.le_of_ble_eq_true rfl⟩ (fun fr6 H locs hw h1 hk _ hS => ?_)
  have hW := hW.setRk (k := 36) (by decide) h1 hk
  refine lv_astore_n (lv' := [(2, .ref (am 36)), (0, .ref (am 38)), (1, .int a0)]) hx hb dX9_had_9 rfl hl (by decide) rfl (fun ls hl => ?_)
  refine lv_iconst (v := 0) hx hb dX9_had_10 (by decide) ?_
  refine lv_istore_n (lv' := [(3, .int 0), (2, .ref (am 36)), (0, .ref (am 38)), (1, .int a0)]) hx hb dX9_had_11 rfl hl (by decide) rfl (fun ls hl => ?_)
  refine lv_iconst (v := 0) hx hb dX9_had_12 (by decide) ?_
  refine lv_istore (lv' := [(4, .int 0), (3, .int 0), (2, .ref (am 36)), (0, .ref (am 38)), (1, .int a0)]) hx hb dX9_had_13 hl (by decide) rfl (fun ls hl => ?_)
  obtain ⟨n15, hw⟩ := hw
  refine tL_X9_had_15 C0 hK  n15 (gk_r σ 36 fr6) 0 0 hw _ _ hW hS  _ (lv_sub hl [3, 2, 1, 0] rfl)
def wL_X9_leastOf_5 (σ : gk_C) (k38 : Int32 → Int32 → Prop) : Nat → Int32 → Int32 → Int32 → Prop
  | 0 => fun _ _ _ => False
  | n + 1 => fun x1 x2 x3 => ((((σ.2 16) ≤ x3) → (k38 x1 x2)) ∧ ((¬ (σ.2 16) ≤ x3) → (((((x1 >>> (x3 &&& 31)) &&& 1) = 0) → (wL_X9_leastOf_5 σ k38 n x1 x2 (x3 + 1))) ∧ ((¬ ((x1 >>> (x3 &&& 31)) &&& 1) = 0) → (vp_in x3 30 ∧ ∀ y31 : Int32, y31 = (if (σ.1 37 x3.toNatClampNeg) < x2 then (σ.1 37 x3.toNatClampNeg) else x2) → wL_X9_leastOf_5 σ k38 n x1 y31 (x3 + 1))))))
def wJ_X9_leastOf_80 (σ : gk_C) (k81 : Int32 → Int32 → Int32 → Int32 → Int32 → Prop) (x1 : Int32) (x2 : Int32) (x4 : Int32) (t0 : Int32) : Prop := (k81 x1 x2 x4 t0 0)
def wJ_X9_leastOf_81 (σ : gk_C) (k43 : Int32 → Int32 → Int32 → Int32 → Prop) (x1 : Int32) (x2 : Int32) (x4 : Int32) (t0 : Int32) (t1 : Int32) : Prop := (k43 x1 x2 (t0 ||| t1) (x4 + 1))
def wL_X9_leastOf_43 (σ : gk_C) (Q : Int32 → Prop) : Nat → Int32 → Int32 → Int32 → Int32 → Prop
  | 0 => fun _ _ _ _ => False
  | n + 1 => fun x1 x2 x3 x4 => ((((σ.2 16) ≤ x4) → (Q x3)) ∧ ((¬ (σ.2 16) ≤ x4) → (((((x1 >>> (x4 &&& 31)) &&& 1) = 0) → (wJ_X9_leastOf_80 σ (fun x1 x2 x4 t0 t1 => (wJ_X9_leastOf_81 σ (fun x1 x2 x3 x4 => wL_X9_leastOf_43 σ Q n x1 x2 x3 x4) x1 x2 x4 t0 t1)) x1 x2 x4 x3)) ∧ ((¬ ((x1 >>> (x4 &&& 31)) &&& 1) = 0) → (vp_in x4 30 ∧ ((¬ (σ.1 37 x4.toNatClampNeg) = x2) → (wJ_X9_leastOf_80 σ (fun x1 x2 x4 t0 t1 => (wJ_X9_leastOf_81 σ (fun x1 x2 x3 x4 => wL_X9_leastOf_43 σ Q n x1 x2 x3 x4) x1 x2 x4 t0 t1)) x1 x2 x4 x3)) ∧ (((σ.1 37 x4.toNatClampNeg) = x2) → (wJ_X9_leastOf_81 σ (fun x1 x2 x3 x4 => wL_X9_leastOf_43 σ Q n x1 x2 x3 x4) x1 x2 x4 x3 (1 <<< (x4 &&& 31)))))))))
def w_X9_leastOf (σ : gk_C) (a0 : Int32) (Q : Int32 → Prop) : Prop := (∃ n5, wL_X9_leastOf_5 σ (fun x1 x2 => (∃ n43, wL_X9_leastOf_43 σ Q n43 x1 x2 0 0)) n5 a0 99 0)
abbrev rmX9_leastOf : Room := { frames := 1, cells := 0, slots := 0, locals := 21 }
set_option maxHeartbeats 4000000 in
set_option maxRecDepth 100000 in
theorem tL_X9_leastOf_5 {p : Program} {l : Launch} {e : Env} {s : State} {m : MethodId} {args : Array Value} {below : List Frame} {meth : Method} {c : Code} {D : va_G} {cI cZ cG cL : ClassId} {am : Nat → Nat} (C0 : gk_F p s m args meth c cX9_leastOf 5 (some .int) RX9) (hK : gk_K D cI cZ cG cL s) {σ : gk_C} {Q : Int32 → Prop} {k38 : Int32 → Int32 → Prop} (hk38 : ∀ (x1 : Int32) (x2 : Int32), k38 x1 x2 → ∀ (H : Heap) (locs : List Loc), mk_W D cI cZ am σ H → va_S (mk_A am s.heap.size) s.heap H locs → ∀ (ls : Array Slot), lv_has ls 5 [(0, .ref (am 38)), (1, .int x1), (2, .int x2)] → W p l e rmX9_leastOf s m args below meth c H locs 0 0 (MQ below (va_Qi (fun r u => u = σ ∧ Q r) (mk_B (mk_W D cI cZ am)) (mk_A am s.heap.size)) args s 0 0 (mk_A am s.heap.size)) (F0 m 38 ls [])) : ∀ (n : Nat) (x1 : Int32) (x2 : Int32) (x3 : Int32), wL_X9_leastOf_5 σ k38 n x1 x2 x3 → ∀ (H : Heap) (locs : List Loc), mk_W D cI cZ am σ H → va_S (mk_A am s.heap.size) s.heap H locs → ∀ (ls : Array Slot), lv_has ls 5 [(0, .ref (am 38)), (1, .int x1), (2, .int x2), (3, .int x3)] → W p l e rmX9_leastOf s m args below meth c H locs 0 0 (MQ below (va_Qi (fun r u => u = σ ∧ Q r) (mk_B (mk_W D cI cZ am)) (mk_A am s.heap.size)) args s 0 0 (mk_A am s.heap.size)) (F0 m 5 ls []) := by
  obtain ⟨hx, hb, hml, hown, hts, hr, hlocks⟩ := id C0
  intro n
  induction n with
  | zero => exact fun _ _ _ hw => False.elim hw
  | succ n ih =>
    intro x1 x2 x3 hw H locs hW hS  ls hl
    refine lv_iload_n hx hb dX9_leastOf_5 rfl (lv_at hl 3 rfl) ?_
    refine lv_aload_n hx hb dX9_leastOf_6 rfl (lv_at hl 0 rfl) ?_
    refine gk_get hx hb hts iwX9 hown hK.1 (mk_objW hW) rfl 16 (by decide) (hts _ fl_X9_165) (fun _ h9 => h9) rfl dX9_leastOf_7 ?_
    refine lv_icmp_ge (tgt := 38) hx hb dX9_leastOf_10 (by decide) (fun c10 => ?_) (fun c10 => ?_)
    · have hw := hw.1 c10
      exact hk38 x1 x2 hw _ _ hW hS  _ (lv_sub hl [0, 1, 2] rfl)
    · have hw := hw.2 c10
      refine lv_iload_n hx hb dX9_leastOf_13 rfl (lv_at hl 1 rfl) ?_
      refine lv_iload_n hx hb dX9_leastOf_14 rfl (lv_at hl 3 rfl) ?_
      refine lv_ishr hx hb dX9_leastOf_15 ?_
      refine lv_iconst (v := 1) hx hb dX9_leastOf_16 (by decide) ?_
      refine lv_iand hx hb dX9_leastOf_17 ?_
      refine lv_if_eq (tgt := 32) hx hb dX9_leastOf_18 (by decide) (fun c18 => ?_) (fun c18 => ?_)
      · have hw := hw.1 c18
        refine lv_iinc (v := (x3 + 1)) (lv' := [(3, .int (x3 + 1)), (0, .ref (am 38)), (1, .int x1), (2, .int x2)]) hx hb dX9_leastOf_32 hl (k := 3) rfl rfl (by decide) rfl (fun ls hl => ?_)
        refine lv_goto (tgt := 5) hx hb dX9_leastOf_35 (by decide) ?_
        exact ih x1 x2 (x3 + 1) hw _ _ hW hS  _ (lv_sub hl [1, 2, 3, 0] rfl)
      · have hw := hw.2 c18
        refine lv_iload_n hx hb dX9_leastOf_21 rfl (lv_at hl 2 rfl) ?_
        refine lv_aload_n hx hb dX9_leastOf_22 rfl (lv_at hl 0 rfl) ?_
        refine gk_get hx hb hts iwX9 hown hK.1 (mk_objW hW) rfl 37 (by decide) (hts _ fl_X9_99) (fun _ h9 => h9) rfl dX9_leastOf_23 ?_
        refine lv_iload_n hx hb dX9_leastOf_26 rfl (lv_at hl 3 rfl) ?_
        obtain ⟨hin, hw⟩ := hw
        refine gk_iald hx hb hK.1 0 (mk_arrW hW (k := 37) (by decide)) rfl hin dX9_leastOf_27 ?_
        refine va_mmin hx hb (hml.trans hl.1.symm) hown (hts _ ml_X9_203) (hts _ st_J9_min_7cf53) (hts _ in_J9) (hts _ co_J9_min_7cf53) (Nat.le_of_ble_eq_true rfl) (Nat.le_of_ble_eq_true rfl) (Nat.zero_le _) (Nat.zero_le _) dX9_leastOf_28 ?_
        refine lv_topi (fun y31 e31 => ?_)
        have hw := hw y31 e31
        refine lv_istore_n (lv' := [(2, .int y31), (0, .ref (am 38)), (1, .int x1), (3, .int x3)]) hx hb dX9_leastOf_31 rfl hl (by decide) rfl (fun ls hl => ?_)
        refine lv_iinc (v := (x3 + 1)) (lv' := [(3, .int (x3 + 1)), (2, .int y31), (0, .ref (am 38)), (1, .int x1)]) hx hb dX9_leastOf_32 hl (k := 3) rfl rfl (by decide) rfl (fun ls hl => ?_)
        refine lv_goto (tgt := 5) hx hb dX9_leastOf_35 (by decide) ?_
        exact ih x1 y31 (x3 + 1) hw _ _ hW hS  _ (lv_sub hl [2, 3, 1, 0] rfl)
set_option maxHeartbeats 4000000 in
set_option maxRecDepth 100000 in
theorem tJ_X9_leastOf_80 {p : Program} {l : Launch} {e : Env} {s : State} {m : MethodId} {args : Array Value} {below : List Frame} {meth : Method} {c : Code} {D : va_G} {cI cZ cG cL : ClassId} {am : Nat → Nat} (C0 : gk_F p s m args meth c cX9_leastOf 5 (some .int) RX9) (hK : gk_K D cI cZ cG cL s) {σ : gk_C} {Q : Int32 → Prop} {k81 : Int32 → Int32 → Int32 → Int32 → Int32 → Prop} (hk81 : ∀ (x1 : Int32) (x2 : Int32) (x4 : Int32) (t0 : Int32) (t1 : Int32), k81 x1 x2 x4 t0 t1 → ∀ (H : Heap) (locs : List Loc), mk_W D cI cZ am σ H → va_S (mk_A am s.heap.size) s.heap H locs → ∀ (ls : Array Slot), lv_has ls 5 [(0, .ref (am 38)), (1, .int x1), (2, .int x2), (4, .int x4)] → W p l e rmX9_leastOf s m args below meth c H locs 0 0 (MQ below (va_Qi (fun r u => u = σ ∧ Q r) (mk_B (mk_W D cI cZ am)) (mk_A am s.heap.size)) args s 0 0 (mk_A am s.heap.size)) (F0 m 81 ls [.int t1, .int t0])) : ∀ (x1 : Int32) (x2 : Int32) (x4 : Int32) (t0 : Int32), wJ_X9_leastOf_80 σ k81 x1 x2 x4 t0 → ∀ (H : Heap) (locs : List Loc), mk_W D cI cZ am σ H → va_S (mk_A am s.heap.size) s.heap H locs → ∀ (ls : Array Slot), lv_has ls 5 [(0, .ref (am 38)), (1, .int x1), (2, .int x2), (4, .int x4)] → W p l e rmX9_leastOf s m args below meth c H locs 0 0 (MQ below (va_Qi (fun r u => u = σ ∧ Q r) (mk_B (mk_W D cI cZ am)) (mk_A am s.heap.size)) args s 0 0 (mk_A am s.heap.size)) (F0 m 80 ls [.int t0]) := by
  obtain ⟨hx, hb, hml, hown, hts, hr, hlocks⟩ := id C0
  intro x1 x2 x4 t0 hw H locs hW hS  ls hl
  refine lv_iconst (v := 0) hx hb dX9_leastOf_80 (by decide) ?_
  exact hk81 x1 x2 x4 t0 0 hw _ _ hW hS  _ hl
set_option maxHeartbeats 4000000 in
set_option maxRecDepth 100000 in
theorem tJ_X9_leastOf_81 {p : Program} {l : Launch} {e : Env} {s : State} {m : MethodId} {args : Array Value} {below : List Frame} {meth : Method} {c : Code} {D : va_G} {cI cZ cG cL : ClassId} {am : Nat → Nat} (C0 : gk_F p s m args meth c cX9_leastOf 5 (some .int) RX9) (hK : gk_K D cI cZ cG cL s) {σ : gk_C} {Q : Int32 → Prop} {k43 : Int32 → Int32 → Int32 → Int32 → Prop} (hk43 : ∀ (x1 : Int32) (x2 : Int32) (x3 : Int32) (x4 : Int32), k43 x1 x2 x3 x4 → ∀ (H : Heap) (locs : List Loc), mk_W D cI cZ am σ H → va_S (mk_A am s.heap.size) s.heap H locs → ∀ (ls : Array Slot), lv_has ls 5 [(0, .ref (am 38)), (1, .int x1), (2, .int x2), (3, .int x3), (4, .int x4)] → W p l e rmX9_leastOf s m args below meth c H locs 0 0 (MQ below (va_Qi (fun r u => u = σ ∧ Q r) (mk_B (mk_W D cI cZ am)) (mk_A am s.heap.size)) args s 0 0 (mk_A am s.heap.size)) (F0 m 43 ls [])) : ∀ (x1 : Int32) (x2 : Int32) (x4 : Int32) (t0 : Int32) (t1 : Int32), wJ_X9_leastOf_81 σ k43 x1 x2 x4 t0 t1 → ∀ (H : Heap) (locs : List Loc), mk_W D cI cZ am σ H → va_S (mk_A am s.heap.size) s.heap H locs → ∀ (ls : Array Slot), lv_has ls 5 [(0, .ref (am 38)), (1, .int x1), (2, .int x2), (4, .int x4)] → W p l e rmX9_leastOf s m args below meth c H locs 0 0 (MQ below (va_Qi (fun r u => u = σ ∧ Q r) (mk_B (mk_W D cI cZ am)) (mk_A am s.heap.size)) args s 0 0 (mk_A am s.heap.size)) (F0 m 81 ls [.int t1, .int t0]) := by
  obtain ⟨hx, hb, hml, hown, hts, hr, hlocks⟩ := id C0
  intro x1 x2 x4 t0 t1 hw H locs hW hS  ls hl
  refine lv_ior hx hb dX9_leastOf_81 ?_
  refine lv_istore_n (lv' := [(3, .int (t0 ||| t1)), (0, .ref (am 38)), (1, .int x1), (2, .int x2), (4, .int x4)]) hx hb dX9_leastOf_82 rfl hl (by decide) rfl (fun ls hl => ?_)
  refine lv_iinc (v := (x4 + 1)) (lv' := [(4, .int (x4 + 1)), (3, .int (t0 ||| t1)), (0, .ref (am 38)), (1, .int x1), (2, .int x2)]) hx hb dX9_leastOf_83 hl (k := 4) rfl rfl (by decide) rfl (fun ls hl => ?_)
  refine lv_goto (tgt := 43) hx hb dX9_leastOf_86 (by decide) ?_
  exact hk43 x1 x2 (t0 ||| t1) (x4 + 1) hw _ _ hW hS  _ (lv_sub hl [2, 3, 4, 1, 0] rfl)
set_option maxHeartbeats 4000000 in
set_option maxRecDepth 100000 in
theorem tL_X9_leastOf_43 {p : Program} {l : Launch} {e : Env} {s : State} {m : MethodId} {args : Array Value} {below : List Frame} {meth : Method} {c : Code} {D : va_G} {cI cZ cG cL : ClassId} {am : Nat → Nat} (C0 : gk_F p s m args meth c cX9_leastOf 5 (some .int) RX9) (hK : gk_K D cI cZ cG cL s) {σ : gk_C} {Q : Int32 → Prop} : ∀ (n : Nat) (x1 : Int32) (x2 : Int32) (x3 : Int32) (x4 : Int32), wL_X9_leastOf_43 σ Q n x1 x2 x3 x4 → ∀ (H : Heap) (locs : List Loc), mk_W D cI cZ am σ H → va_S (mk_A am s.heap.size) s.heap H locs → ∀ (ls : Array Slot), lv_has ls 5 [(0, .ref (am 38)), (1, .int x1), (2, .int x2), (3, .int x3), (4, .int x4)] → W p l e rmX9_leastOf s m args below meth c H locs 0 0 (MQ below (va_Qi (fun r u => u = σ ∧ Q r) (mk_B (mk_W D cI cZ am)) (mk_A am s.heap.size)) args s 0 0 (mk_A am s.heap.size)) (F0 m 43 ls []) := by
  obtain ⟨hx, hb, hml, hown, hts, hr, hlocks⟩ := id C0
  intro n
  induction n with
  | zero => exact fun _ _ _ _ hw => False.elim hw
  | succ n ih =>
    intro x1 x2 x3 x4 hw H locs hW hS  ls hl
    refine lv_iload hx hb dX9_leastOf_43 (lv_at hl 4 rfl) ?_
    refine lv_aload_n hx hb dX9_leastOf_45 rfl (lv_at hl 0 rfl) ?_
    refine gk_get hx hb hts iwX9 hown hK.1 (mk_objW hW) rfl 16 (by decide) (hts _ fl_X9_165) (fun _ h9 => h9) rfl dX9_leastOf_46 ?_
    refine lv_icmp_ge (tgt := 89) hx hb dX9_leastOf_49 (by decide) (fun c49 => ?_) (fun c49 => ?_)
    · have hw := hw.1 c49
      refine lv_iload_n hx hb dX9_leastOf_89 rfl (lv_at hl 3 rfl) ?_
      refine W.widen (k := 0) (n := 0) (Nat.le_of_ble_eq_true rfl) (Nat.le_of_ble_eq_true rfl) ?_
      exact mk_reti C0 ⟨rfl, hw⟩ hW hS dX9_leastOf_90
    · have hw := hw.2 c49
      refine lv_iload_n hx hb dX9_leastOf_52 rfl (lv_at hl 3 rfl) ?_
      refine lv_iload_n hx hb dX9_leastOf_53 rfl (lv_at hl 1 rfl) ?_
      refine lv_iload hx hb dX9_leastOf_54 (lv_at hl 4 rfl) ?_
      refine lv_ishr hx hb dX9_leastOf_56 ?_
      refine lv_iconst (v := 1) hx hb dX9_leastOf_57 (by decide) ?_
      refine lv_iand hx hb dX9_leastOf_58 ?_
      refine lv_if_eq (tgt := 80) hx hb dX9_leastOf_59 (by decide) (fun c59 => ?_) (fun c59 => ?_)
      · have hw := hw.1 c59
        refine tJ_X9_leastOf_80 C0 hK (hk81 := ?_) x1 x2 x4 x3 hw _ _ hW hS  _ (lv_sub hl [0, 1, 2, 4] rfl)
        · intro x1 x2 x4 t0 t1 hw H locs hW hS  ls hl
          refine tJ_X9_leastOf_81 C0 hK (hk43 := ih) x1 x2 x4 t0 t1 hw _ _ hW hS  _ hl
      · have hw := hw.2 c59
        refine lv_aload_n hx hb dX9_leastOf_62 rfl (lv_at hl 0 rfl) ?_
        refine gk_get hx hb hts iwX9 hown hK.1 (mk_objW hW) rfl 37 (by decide) (hts _ fl_X9_99) (fun _ h9 => h9) rfl dX9_leastOf_63 ?_
        refine lv_iload hx hb dX9_leastOf_66 (lv_at hl 4 rfl) ?_
        obtain ⟨hin, hw⟩ := hw
        refine gk_iald hx hb hK.1 0 (mk_arrW hW (k := 37) (by decide)) rfl hin dX9_leastOf_68 ?_
        refine lv_iload_n hx hb dX9_leastOf_69 rfl (lv_at hl 2 rfl) ?_
        refine lv_icmp_ne (tgt := 80) hx hb dX9_leastOf_70 (by decide) (fun c70 => ?_) (fun c70 => ?_)
        · have hw := hw.1 c70
          refine tJ_X9_leastOf_80 C0 hK (hk81 := ?_) x1 x2 x4 x3 hw _ _ hW hS  _ (lv_sub hl [0, 1, 2, 4] rfl)
          · intro x1 x2 x4 t0 t1 hw H locs hW hS  ls hl
            refine tJ_X9_leastOf_81 C0 hK (hk43 := ih) x1 x2 x4 t0 t1 hw _ _ hW hS  _ hl
        · have hw := hw.2 c70
          refine lv_iconst (v := 1) hx hb dX9_leastOf_73 (by decide) ?_
          refine lv_iload hx hb dX9_leastOf_74 (lv_at hl 4 rfl) ?_
          refine lv_ishl hx hb dX9_leastOf_76 ?_
          refine lv_goto (tgt := 81) hx hb dX9_leastOf_77 (by decide) ?_
          refine tJ_X9_leastOf_81 C0 hK (hk43 := ih) x1 x2 x4 x3 (1 <<< (x4 &&& 31)) hw _ _ hW hS  _ (lv_sub hl [0, 1, 2, 4] rfl)
set_option maxHeartbeats 4000000 in
set_option maxRecDepth 100000 in
theorem c_X9_leastOf (l : Launch) (D : va_G) (cI cZ cG cL : ClassId) (am : Nat → Nat) {σ : gk_C} {a0 : Int32} {Q : Int32 → Prop} {sz : Nat} (hw : w_X9_leastOf σ a0 Q) : Met l yX9_leastOf wsX9_leastOf rmX9_leastOf (mk_Pc (mk_W D cI cZ am) D cI cZ cG cL [.ref (am 38), .int a0] sz σ (fun _ => True)) (va_Qi (fun r u => u = σ ∧ Q r) (mk_B (mk_W D cI cZ am)) (mk_A am sz)) 0 0 (mk_A am sz) := by
  refine Met.ofW (cc := cX9_leastOf) (maxL := 5) (ret := (some .int)) (by decide) rfl ?_
  intro p e s m args below meth c s₁ B hml0 hv0
  obtain ⟨rfl, hsz, hW, hK, hX⟩ := hv0
  subst hsz
  have C0 : gk_F p s m ([.ref (am 38), .int a0] : List Value).toArray meth c cX9_leastOf 5 (some .int) RX9 := ⟨B.exec, B.bytes, hml0, findClass_of_methodNamed B.named, fun w hw => atoms_spec (ws := wsX9_leastOf) B.pre w (List.mem_cons_of_mem _ hw), B.returns, B.notSynchronized⟩
  obtain ⟨hx, hb, hml, hown, hts, hr, hlocks⟩ := id C0
  have hS : va_S (mk_A am s.heap.size) s.heap s.heap [] := va_S.rf
  have hl := lv_entry ([.ref (am 38), .int a0]) (n := 5) (Nat.le_of_ble_eq_true rfl)
  rw [lg_entry_eq]
  generalize (lg_sl ([.ref (am 38), .int a0]) ++ List.replicate (5 - (lg_sl ([.ref (am 38), .int a0])).length) Slot.unset).toArray = ls at hl ⊢
  have hl : lv_has ls 5 [(0, .ref (am 38)), (1, .int a0)] := hl
  show W p l e rmX9_leastOf s m _ below meth c s.heap [] 0 0 _ _
  refine lv_bipush (v := 99) hx hb dX9_leastOf_0 (by decide) ?_
  refine lv_istore_n (lv' := [(2, .int 99), (0, .ref (am 38)), (1, .int a0)]) hx hb dX9_leastOf_2 rfl hl (by decide) rfl (fun ls hl => ?_)
  refine lv_iconst (v := 0) hx hb dX9_leastOf_3 (by decide) ?_
  refine lv_istore_n (lv' := [(3, .int 0), (2, .int 99), (0, .ref (am 38)), (1, .int a0)]) hx hb dX9_leastOf_4 rfl hl (by decide) rfl (fun ls hl => ?_)
  obtain ⟨n5, hw⟩ := hw
  refine tL_X9_leastOf_5 C0 hK (hk38 := ?_) n5 a0 99 0 hw _ _ hW hS  _ (lv_sub hl [2, 3, 1, 0] rfl)
  · intro x1 x2 hw H locs hW hS  ls hl
    refine lv_iconst (v := 0) hx hb dX9_leastOf_38 (by decide) ?_
    refine lv_istore_n (lv' := [(3, .int 0), (0, .ref (am 38)), (1, .int x1), (2, .int x2)]) hx hb dX9_leastOf_39 rfl hl (by decide) rfl (fun ls hl => ?_)
    refine lv_iconst (v := 0) hx hb dX9_leastOf_40 (by decide) ?_
    refine lv_istore (lv' := [(4, .int 0), (3, .int 0), (0, .ref (am 38)), (1, .int x1), (2, .int x2)]) hx hb dX9_leastOf_41 hl (by decide) rfl (fun ls hl => ?_)
    obtain ⟨n43, hw⟩ := hw
    refine tL_X9_leastOf_43 C0 hK  n43 x1 x2 0 0 hw _ _ hW hS  _ (lv_sub hl [2, 3, 4, 1, 0] rfl)
def wJ_X9_weigh_181 (fP1 : Nat → Int32) (Q : Int32 → gk_C → Prop) (σ : gk_C) (x5 : Int32) : Prop := (w_X9_firstOf σ x5 0 (fun r185 => Q r185 σ))
def wL_X9_weigh_143 (fP1 : Nat → Int32) (k173 : gk_C → Int32 → Prop) : Nat → gk_C → Int32 → Int32 → Prop
  | 0 => fun _ _ _ => False
  | n + 1 => fun σ x5 x6 => ((((σ.2 16) ≤ x6) → (k173 σ x5)) ∧ ((¬ (σ.2 16) ≤ x6) → (vp_in x6 30 ∧ vp_in x6 30 ∧ ∀ σ166 : gk_C, σ166 = mk_st σ 37 x6 (-(σ.1 22 x6.toNatClampNeg)) → wL_X9_weigh_143 fP1 k173 n σ166 x5 (x6 + 1))))
def wJ_X9_weigh_134 (fP1 : Nat → Int32) (Q : Int32 → gk_C → Prop) (σ : gk_C) (x4 : Int32) (x5 : Int32) : Prop := (((¬ x4 = 3) → (wJ_X9_weigh_181 fP1 Q σ x5)) ∧ ((x4 = 3) → (∃ n143, wL_X9_weigh_143 fP1 (fun σ x5 => (w_X9_leastOf σ x5 (fun r176 => wJ_X9_weigh_181 fP1 Q σ r176))) n143 σ x5 0)))
def wL_X9_weigh_31 (fP1 : Nat → Int32) (k65 : gk_C → Int32 → Int32 → Prop) : Nat → gk_C → Int32 → Int32 → Int32 → Int32 → Prop
  | 0 => fun _ _ _ _ _ => False
  | n + 1 => fun σ x3 x4 x5 x6 => ((((σ.2 16) ≤ x6) → (k65 σ x4 x5)) ∧ ((¬ (σ.2 16) ≤ x6) → (vp_in x6 30 ∧ w_X9_farNow σ x3 (σ.1 21 x6.toNatClampNeg) (fun r55 => vp_in x6 30 ∧ ∀ σ58 : gk_C, σ58 = mk_st σ 37 x6 r55 → wL_X9_weigh_31 fP1 k65 n σ58 x3 x4 x5 (x6 + 1)))))
def wJ_X9_weigh_119 (fP1 : Nat → Int32) (k76 : gk_C → Int32 → Int32 → Int32 → Prop) (σ : gk_C) (x4 : Int32) (x5 : Int32) (x6 : Int32) (t1 : Int32) (t2 : Int32) : Prop := (vp_in t1 30 ∧ ∀ σ119 : gk_C, σ119 = mk_st σ 37 t1 t2 → k76 σ119 x4 x5 (x6 + 1))
def wL_X9_weigh_76 (fP1 : Nat → Int32) (k126 : gk_C → Int32 → Int32 → Prop) : Nat → gk_C → Int32 → Int32 → Int32 → Prop
  | 0 => fun _ _ _ _ => False
  | n + 1 => fun σ x4 x5 x6 => ((((σ.2 16) ≤ x6) → (k126 σ x4 x5)) ∧ ((¬ (σ.2 16) ≤ x6) → (vp_in x6 30 ∧ ((12 ≤ (σ.1 19 x6.toNatClampNeg)) → (vp_in x6 30 ∧ vp_in ((σ.1 19 x6.toNatClampNeg) - 12) 12 ∧ wJ_X9_weigh_119 fP1 (fun σ x4 x5 x6 => wL_X9_weigh_76 fP1 k126 n σ x4 x5 x6) σ x4 x5 x6 x6 (fP1 ((σ.1 19 x6.toNatClampNeg) - 12).toNatClampNeg))) ∧ ((¬ 12 ≤ (σ.1 19 x6.toNatClampNeg)) → (wJ_X9_weigh_119 fP1 (fun σ x4 x5 x6 => wL_X9_weigh_76 fP1 k126 n σ x4 x5 x6) σ x4 x5 x6 x6 0)))))
def w_X9_weigh (σ : gk_C) (a0 : Int32) (fP1 : Nat → Int32) (a2 : Int32) (a3 : Int32) (Q : Int32 → gk_C → Prop) : Prop := (((¬ a0 = 0) → (((¬ a3 = 1) → (((¬ a3 = 2) → (wJ_X9_weigh_134 fP1 Q σ a3 a0)) ∧ ((a3 = 2) → (∃ n31, wL_X9_weigh_31 fP1 (fun σ x4 x5 => (w_X9_leastOf σ x5 (fun r68 => ∃ n76, wL_X9_weigh_76 fP1 (fun σ x4 x5 => (w_X9_leastOf σ x5 (fun r129 => wJ_X9_weigh_134 fP1 Q σ x4 r129))) n76 σ x4 r68 0))) n31 σ a2 a3 a0 0)))) ∧ ((a3 = 1) → (w_X9_firstOf σ a0 1 (fun r15 => Q r15 σ))))) ∧ ((a0 = 0) → (Q (-1) σ)))
abbrev rmX9_weigh : Room := { frames := 2, cells := 0, slots := 0, locals := 45 }
set_option maxHeartbeats 4000000 in
set_option maxRecDepth 100000 in
theorem tJ_X9_weigh_181 {p : Program} {l : Launch} {e : Env} {s : State} {m : MethodId} {args : Array Value} {below : List Frame} {meth : Method} {c : Code} {D : va_G} {cI cZ cG cL : ClassId} {am : Nat → Nat} (C0 : gk_F p s m args meth c cX9_weigh 7 (some .int) RX9) (hK : gk_K D cI cZ cG cL s) {fP1 : Nat → Int32} {qP1 : Nat} (hxP1 : mk_D D cI am qP1 12 fP1 s.heap) {Q : Int32 → gk_C → Prop} : ∀ (σ : gk_C) (x5 : Int32), wJ_X9_weigh_181 fP1 Q σ x5 → ∀ (H : Heap) (locs : List Loc), mk_W D cI cZ am σ H → va_S (mk_A am s.heap.size) s.heap H locs → ∀ (ls : Array Slot), lv_has ls 7 [(0, .ref (am 38)), (5, .int x5)] → W p l e rmX9_weigh s m args below meth c H locs 0 0 (MQ below (va_Qi (fun r u => Q r u) (mk_B (mk_W D cI cZ am)) (mk_A am s.heap.size)) args s 0 0 (mk_A am s.heap.size)) (F0 m 181 ls []) := by
  obtain ⟨hx, hb, hml, hown, hts, hr, hlocks⟩ := id C0
  intro σ x5 hw H locs hW hS  ls hl
  refine lv_aload_n hx hb dX9_weigh_181 rfl (lv_at hl 0 rfl) ?_
  refine lv_iload hx hb dX9_weigh_182 (lv_at hl 1 rfl) ?_
  refine lv_iconst (v := 0) hx hb dX9_weigh_184 (by decide) ?_
  refine mk_callRi ⟨hx, hb, hml, hown, hts⟩ (c_X9_firstOfW l D cI cZ cG cL am hw) (cwV 2 hts (gk_gV ml_X9_208 im_X9_firstOf se_X9_firstOf in_X9 co_X9_firstOf) rfl rfl rfl (by decide +kernel) ⟨Nat.le_of_ble_eq_true rfl, Nat.le_of_ble_eq_true rfl⟩) (gk_recv hK.1 (mk_objW hW) rfl) hW hK trivial hS rfl hl.1 (rest := []) rfl (lv_room (Nat.le_of_ble_eq_true rfl)) dX9_weigh_185 ⟨Nat.le_of_ble_eq_true rfl, Nat.le_of_ble_eq_true rfl⟩ (fun r185 H locs hw hW _ hk hS => ?_)
  refine W.widen (k := 0) (n := 0) (Nat.le_of_ble_eq_true rfl) (Nat.le_of_ble_eq_true rfl) ?_
  exact mk_reti C0 hw hW hS dX9_weigh_188
set_option maxHeartbeats 4000000 in
set_option maxRecDepth 100000 in
theorem tL_X9_weigh_143 {p : Program} {l : Launch} {e : Env} {s : State} {m : MethodId} {args : Array Value} {below : List Frame} {meth : Method} {c : Code} {D : va_G} {cI cZ cG cL : ClassId} {am : Nat → Nat} (C0 : gk_F p s m args meth c cX9_weigh 7 (some .int) RX9) (hK : gk_K D cI cZ cG cL s) {fP1 : Nat → Int32} {qP1 : Nat} (hxP1 : mk_D D cI am qP1 12 fP1 s.heap) {Q : Int32 → gk_C → Prop} {k173 : gk_C → Int32 → Prop} (hk173 : ∀ (σ : gk_C) (x5 : Int32), k173 σ x5 → ∀ (H : Heap) (locs : List Loc), mk_W D cI cZ am σ H → va_S (mk_A am s.heap.size) s.heap H locs → ∀ (ls : Array Slot), lv_has ls 7 [(0, .ref (am 38)), (5, .int x5)] → W p l e rmX9_weigh s m args below meth c H locs 0 0 (MQ below (va_Qi (fun r u => Q r u) (mk_B (mk_W D cI cZ am)) (mk_A am s.heap.size)) args s 0 0 (mk_A am s.heap.size)) (F0 m 173 ls [])) : ∀ (n : Nat) (σ : gk_C) (x5 : Int32) (x6 : Int32), wL_X9_weigh_143 fP1 k173 n σ x5 x6 → ∀ (H : Heap) (locs : List Loc), mk_W D cI cZ am σ H → va_S (mk_A am s.heap.size) s.heap H locs → ∀ (ls : Array Slot), lv_has ls 7 [(0, .ref (am 38)), (5, .int x5), (6, .int x6)] → W p l e rmX9_weigh s m args below meth c H locs 0 0 (MQ below (va_Qi (fun r u => Q r u) (mk_B (mk_W D cI cZ am)) (mk_A am s.heap.size)) args s 0 0 (mk_A am s.heap.size)) (F0 m 143 ls []) := by
  obtain ⟨hx, hb, hml, hown, hts, hr, hlocks⟩ := id C0
  intro n
  induction n with
  | zero => exact fun _ _ _ hw => False.elim hw
  | succ n ih =>
    intro σ x5 x6 hw H locs hW hS  ls hl
    refine lv_iload hx hb dX9_weigh_143 (lv_at hl 2 rfl) ?_
    refine lv_aload_n hx hb dX9_weigh_145 rfl (lv_at hl 0 rfl) ?_
    refine gk_get hx hb hts iwX9 hown hK.1 (mk_objW hW) rfl 16 (by decide) (hts _ fl_X9_165) (fun _ h9 => h9) rfl dX9_weigh_146 ?_
    refine lv_icmp_ge (tgt := 173) hx hb dX9_weigh_149 (by decide) (fun c149 => ?_) (fun c149 => ?_)
    · have hw := hw.1 c149
      exact hk173 σ x5 hw _ _ hW hS  _ (lv_sub hl [0, 1] rfl)
    · have hw := hw.2 c149
      refine lv_aload_n hx hb dX9_weigh_152 rfl (lv_at hl 0 rfl) ?_
      refine gk_get hx hb hts iwX9 hown hK.1 (mk_objW hW) rfl 37 (by decide) (hts _ fl_X9_99) (fun _ h9 => h9) rfl dX9_weigh_153 ?_
      refine lv_iload hx hb dX9_weigh_156 (lv_at hl 2 rfl) ?_
      refine lv_aload_n hx hb dX9_weigh_158 rfl (lv_at hl 0 rfl) ?_
      refine gk_get hx hb hts iwX9 hown hK.1 (mk_objW hW) rfl 22 (by decide) (hts _ fl_X9_57) (fun _ h9 => h9) rfl dX9_weigh_159 ?_
      refine lv_iload hx hb dX9_weigh_162 (lv_at hl 2 rfl) ?_
      obtain ⟨hin, hw⟩ := hw
      refine gk_iald hx hb hK.1 0 (mk_arrW hW (k := 22) (by decide)) rfl hin dX9_weigh_164 ?_
      refine lv_ineg hx hb dX9_weigh_165 ?_
      obtain ⟨hin, hw⟩ := hw
      refine gk_iast hx hb hK.1 hS (mk_A.in (k := 37) (by decide)) 0 (mk_arrW hW (k := 37) (by decide)) rfl hin dX9_weigh_166 (fun H locs h1 _ oq hS => ?_)
      have hW := hW.setR (k := 37) (by decide) h1 oq
      obtain ⟨σ166, eσ166⟩ : ∃ z, z = mk_st σ 37 x6 (-(σ.1 22 x6.toNatClampNeg)) := ⟨_, rfl⟩
      have hW := mk_stW (Wd := mk_W D cI cZ am) eσ166 hW
      have hw := hw σ166 eσ166
      refine lv_iinc (v := (x6 + 1)) (lv' := [(6, .int (x6 + 1)), (0, .ref (am 38)), (5, .int x5)]) hx hb dX9_weigh_167 hl (k := 2) rfl rfl (by decide) rfl (fun ls hl => ?_)
      refine lv_goto (tgt := 143) hx hb dX9_weigh_170 (by decide) ?_
      exact ih σ166 x5 (x6 + 1) hw _ _ hW hS  _ (lv_sub hl [1, 2, 0] rfl)
set_option maxHeartbeats 4000000 in
set_option maxRecDepth 100000 in
theorem tJ_X9_weigh_134 {p : Program} {l : Launch} {e : Env} {s : State} {m : MethodId} {args : Array Value} {below : List Frame} {meth : Method} {c : Code} {D : va_G} {cI cZ cG cL : ClassId} {am : Nat → Nat} (C0 : gk_F p s m args meth c cX9_weigh 7 (some .int) RX9) (hK : gk_K D cI cZ cG cL s) {fP1 : Nat → Int32} {qP1 : Nat} (hxP1 : mk_D D cI am qP1 12 fP1 s.heap) {Q : Int32 → gk_C → Prop} : ∀ (σ : gk_C) (x4 : Int32) (x5 : Int32), wJ_X9_weigh_134 fP1 Q σ x4 x5 → ∀ (H : Heap) (locs : List Loc), mk_W D cI cZ am σ H → va_S (mk_A am s.heap.size) s.heap H locs → ∀ (ls : Array Slot), lv_has ls 7 [(0, .ref (am 38)), (4, .int x4), (5, .int x5)] → W p l e rmX9_weigh s m args below meth c H locs 0 0 (MQ below (va_Qi (fun r u => Q r u) (mk_B (mk_W D cI cZ am)) (mk_A am s.heap.size)) args s 0 0 (mk_A am s.heap.size)) (F0 m 134 ls []) := by
  obtain ⟨hx, hb, hml, hown, hts, hr, hlocks⟩ := id C0
  intro σ x4 x5 hw H locs hW hS  ls hl
  refine lv_iload hx hb dX9_weigh_134 (lv_at hl 1 rfl) ?_
  refine lv_iconst (v := 3) hx hb dX9_weigh_136 (by decide) ?_
  refine lv_icmp_ne (tgt := 181) hx hb dX9_weigh_137 (by decide) (fun c137 => ?_) (fun c137 => ?_)
  · have hw := hw.1 c137
    refine tJ_X9_weigh_181 C0 hK hxP1  σ x5 hw _ _ hW hS  _ (lv_sub hl [0, 2] rfl)
  · have hw := hw.2 c137
    refine lv_iconst (v := 0) hx hb dX9_weigh_140 (by decide) ?_
    refine lv_istore (lv' := [(6, .int 0), (0, .ref (am 38)), (4, .int x4), (5, .int x5)]) hx hb dX9_weigh_141 hl (by decide) rfl (fun ls hl => ?_)
    obtain ⟨n143, hw⟩ := hw
    refine tL_X9_weigh_143 C0 hK hxP1 (hk173 := ?_) n143 σ x5 0 hw _ _ hW hS  _ (lv_sub hl [1, 3, 0] rfl)
    · intro σ x5 hw H locs hW hS  ls hl
      refine lv_aload_n hx hb dX9_weigh_173 rfl (lv_at hl 0 rfl) ?_
      refine lv_iload hx hb dX9_weigh_174 (lv_at hl 1 rfl) ?_
      refine mk_callRi ⟨hx, hb, hml, hown, hts⟩ (c_X9_leastOf l D cI cZ cG cL am hw) (cwV 1 hts (gk_gV ml_X9_212 im_X9_leastOf se_X9_leastOf in_X9 co_X9_leastOf) rfl rfl rfl (by decide +kernel) ⟨Nat.le_of_ble_eq_true rfl, Nat.le_of_ble_eq_true rfl⟩) (gk_recv hK.1 (mk_objW hW) rfl) hW hK trivial hS rfl hl.1 (rest := []) rfl (lv_room (Nat.le_of_ble_eq_true rfl)) dX9_weigh_176 ⟨Nat.le_of_ble_eq_true rfl, Nat.le_of_ble_eq_true rfl⟩ (fun r176 H locs hw hW _ hk hS => ?_)
      refine lv_istore (lv' := [(5, .int r176), (0, .ref (am 38))]) hx hb dX9_weigh_179 hl (by decide) rfl (fun ls hl => ?_)
      refine tJ_X9_weigh_181 C0 hK hxP1  σ r176 hw _ _ hW hS  _ (lv_sub hl [1, 0] rfl)
set_option maxHeartbeats 4000000 in
set_option maxRecDepth 100000 in
theorem tL_X9_weigh_31 {p : Program} {l : Launch} {e : Env} {s : State} {m : MethodId} {args : Array Value} {below : List Frame} {meth : Method} {c : Code} {D : va_G} {cI cZ cG cL : ClassId} {am : Nat → Nat} (C0 : gk_F p s m args meth c cX9_weigh 7 (some .int) RX9) (hK : gk_K D cI cZ cG cL s) {fP1 : Nat → Int32} {qP1 : Nat} (hxP1 : mk_D D cI am qP1 12 fP1 s.heap) {Q : Int32 → gk_C → Prop} {k65 : gk_C → Int32 → Int32 → Prop} (hk65 : ∀ (σ : gk_C) (x4 : Int32) (x5 : Int32), k65 σ x4 x5 → ∀ (H : Heap) (locs : List Loc), mk_W D cI cZ am σ H → va_S (mk_A am s.heap.size) s.heap H locs → ∀ (ls : Array Slot), lv_has ls 7 [(0, .ref (am 38)), (2, .ref qP1), (4, .int x4), (5, .int x5)] → W p l e rmX9_weigh s m args below meth c H locs 0 0 (MQ below (va_Qi (fun r u => Q r u) (mk_B (mk_W D cI cZ am)) (mk_A am s.heap.size)) args s 0 0 (mk_A am s.heap.size)) (F0 m 65 ls [])) : ∀ (n : Nat) (σ : gk_C) (x3 : Int32) (x4 : Int32) (x5 : Int32) (x6 : Int32), wL_X9_weigh_31 fP1 k65 n σ x3 x4 x5 x6 → ∀ (H : Heap) (locs : List Loc), mk_W D cI cZ am σ H → va_S (mk_A am s.heap.size) s.heap H locs → ∀ (ls : Array Slot), lv_has ls 7 [(0, .ref (am 38)), (2, .ref qP1), (3, .int x3), (4, .int x4), (5, .int x5), (6, .int x6)] → W p l e rmX9_weigh s m args below meth c H locs 0 0 (MQ below (va_Qi (fun r u => Q r u) (mk_B (mk_W D cI cZ am)) (mk_A am s.heap.size)) args s 0 0 (mk_A am s.heap.size)) (F0 m 31 ls []) := by
  obtain ⟨hx, hb, hml, hown, hts, hr, hlocks⟩ := id C0
  intro n
  induction n with
  | zero => exact fun _ _ _ _ _ hw => False.elim hw
  | succ n ih =>
    intro σ x3 x4 x5 x6 hw H locs hW hS  ls hl
    refine lv_iload hx hb dX9_weigh_31 (lv_at hl 5 rfl) ?_
    refine lv_aload_n hx hb dX9_weigh_33 rfl (lv_at hl 0 rfl) ?_
    refine gk_get hx hb hts iwX9 hown hK.1 (mk_objW hW) rfl 16 (by decide) (hts _ fl_X9_165) (fun _ h9 => h9) rfl dX9_weigh_34 ?_
    refine lv_icmp_ge (tgt := 65) hx hb dX9_weigh_37 (by decide) (fun c37 => ?_) (fun c37 => ?_)
    · have hw := hw.1 c37
      exact hk65 σ x4 x5 hw _ _ hW hS  _ (lv_sub hl [0, 1, 3, 4] rfl)
    · have hw := hw.2 c37
      refine lv_aload_n hx hb dX9_weigh_40 rfl (lv_at hl 0 rfl) ?_
      refine gk_get hx hb hts iwX9 hown hK.1 (mk_objW hW) rfl 37 (by decide) (hts _ fl_X9_99) (fun _ h9 => h9) rfl dX9_weigh_41 ?_
      refine lv_iload hx hb dX9_weigh_44 (lv_at hl 5 rfl) ?_
      refine lv_aload_n hx hb dX9_weigh_46 rfl (lv_at hl 0 rfl) ?_
      refine lv_iload_n hx hb dX9_weigh_47 rfl (lv_at hl 2 rfl) ?_
      refine lv_aload_n hx hb dX9_weigh_48 rfl (lv_at hl 0 rfl) ?_
      refine gk_get hx hb hts iwX9 hown hK.1 (mk_objW hW) rfl 21 (by decide) (hts _ fl_X9_54) (fun _ h9 => h9) rfl dX9_weigh_49 ?_
      refine lv_iload hx hb dX9_weigh_52 (lv_at hl 5 rfl) ?_
      obtain ⟨hin, hw⟩ := hw
      refine gk_iald hx hb hK.1 0 (mk_arrW hW (k := 21) (by decide)) rfl hin dX9_weigh_54 ?_
      refine mk_callRi ⟨hx, hb, hml, hown, hts⟩ (c_X9_farNowW l D cI cZ cG cL am hw) (cwV 2 hts (gk_gV ml_X9_161 im_X9_farNow se_X9_farNow in_X9 co_X9_farNow) rfl rfl rfl (by decide +kernel) ⟨Nat.le_of_ble_eq_true rfl, Nat.le_of_ble_eq_true rfl⟩) (gk_recv hK.1 (mk_objW hW) rfl) hW hK trivial hS rfl hl.1 (rest := [.int x6, .ref (am 37)]) rfl (lv_room (Nat.le_of_ble_eq_true rfl)) dX9_weigh_55 ⟨Nat.le_of_ble_eq_true rfl, Nat.le_of_ble_eq_true rfl⟩ (fun r55 H locs hw hW _ hk hS => ?_)
      obtain ⟨hin, hw⟩ := hw
      refine gk_iast hx hb hK.1 hS (mk_A.in (k := 37) (by decide)) 0 (mk_arrW hW (k := 37) (by decide)) rfl hin dX9_weigh_58 (fun H locs h1 _ oq hS => ?_)
      have hW := hW.setR (k := 37) (by decide) h1 oq
      obtain ⟨σ58, eσ58⟩ : ∃ z, z = mk_st σ 37 x6 r55 := ⟨_, rfl⟩
      have hW := mk_stW (Wd := mk_W D cI cZ am) eσ58 hW
      have hw := hw σ58 eσ58
      refine lv_iinc (v := (x6 + 1)) (lv' := [(6, .int (x6 + 1)), (0, .ref (am 38)), (2, .ref qP1), (3, .int x3), (4, .int x4), (5, .int x5)]) hx hb dX9_weigh_59 hl (k := 5) rfl rfl (by decide) rfl (fun ls hl => ?_)
      refine lv_goto (tgt := 31) hx hb dX9_weigh_62 (by decide) ?_
      exact ih σ58 x3 x4 x5 (x6 + 1) hw _ _ hW hS  _ (lv_sub hl [1, 2, 3, 4, 5, 0] rfl)
set_option maxHeartbeats 4000000 in
set_option maxRecDepth 100000 in
theorem tJ_X9_weigh_119 {p : Program} {l : Launch} {e : Env} {s : State} {m : MethodId} {args : Array Value} {below : List Frame} {meth : Method} {c : Code} {D : va_G} {cI cZ cG cL : ClassId} {am : Nat → Nat} (C0 : gk_F p s m args meth c cX9_weigh 7 (some .int) RX9) (hK : gk_K D cI cZ cG cL s) {fP1 : Nat → Int32} {qP1 : Nat} (hxP1 : mk_D D cI am qP1 12 fP1 s.heap) {Q : Int32 → gk_C → Prop} {k76 : gk_C → Int32 → Int32 → Int32 → Prop} (hk76 : ∀ (σ : gk_C) (x4 : Int32) (x5 : Int32) (x6 : Int32), k76 σ x4 x5 x6 → ∀ (H : Heap) (locs : List Loc), mk_W D cI cZ am σ H → va_S (mk_A am s.heap.size) s.heap H locs → ∀ (ls : Array Slot), lv_has ls 7 [(0, .ref (am 38)), (2, .ref qP1), (4, .int x4), (5, .int x5), (6, .int x6)] → W p l e rmX9_weigh s m args below meth c H locs 0 0 (MQ below (va_Qi (fun r u => Q r u) (mk_B (mk_W D cI cZ am)) (mk_A am s.heap.size)) args s 0 0 (mk_A am s.heap.size)) (F0 m 76 ls [])) : ∀ (σ : gk_C) (x4 : Int32) (x5 : Int32) (x6 : Int32) (t1 : Int32) (t2 : Int32), wJ_X9_weigh_119 fP1 k76 σ x4 x5 x6 t1 t2 → ∀ (H : Heap) (locs : List Loc), mk_W D cI cZ am σ H → va_S (mk_A am s.heap.size) s.heap H locs → ∀ (ls : Array Slot), lv_has ls 7 [(0, .ref (am 38)), (2, .ref qP1), (4, .int x4), (5, .int x5), (6, .int x6)] → W p l e rmX9_weigh s m args below meth c H locs 0 0 (MQ below (va_Qi (fun r u => Q r u) (mk_B (mk_W D cI cZ am)) (mk_A am s.heap.size)) args s 0 0 (mk_A am s.heap.size)) (F0 m 119 ls [.int t2, .int t1, .ref (am 37)]) := by
  obtain ⟨hx, hb, hml, hown, hts, hr, hlocks⟩ := id C0
  intro σ x4 x5 x6 t1 t2 hw H locs hW hS  ls hl
  obtain ⟨hin, hw⟩ := hw
  refine gk_iast hx hb hK.1 hS (mk_A.in (k := 37) (by decide)) 0 (mk_arrW hW (k := 37) (by decide)) rfl hin dX9_weigh_119 (fun H locs h1 _ oq hS => ?_)
  have hW := hW.setR (k := 37) (by decide) h1 oq
  obtain ⟨σ119, eσ119⟩ : ∃ z, z = mk_st σ 37 t1 t2 := ⟨_, rfl⟩
  have hW := mk_stW (Wd := mk_W D cI cZ am) eσ119 hW
  have hw := hw σ119 eσ119
  refine lv_iinc (v := (x6 + 1)) (lv' := [(6, .int (x6 + 1)), (0, .ref (am 38)), (2, .ref qP1), (4, .int x4), (5, .int x5)]) hx hb dX9_weigh_120 hl (k := 4) rfl rfl (by decide) rfl (fun ls hl => ?_)
  refine lv_goto (tgt := 76) hx hb dX9_weigh_123 (by decide) ?_
  exact hk76 σ119 x4 x5 (x6 + 1) hw _ _ hW hS  _ (lv_sub hl [1, 2, 3, 4, 0] rfl)
set_option maxHeartbeats 4000000 in
set_option maxRecDepth 100000 in
theorem tL_X9_weigh_76 {p : Program} {l : Launch} {e : Env} {s : State} {m : MethodId} {args : Array Value} {below : List Frame} {meth : Method} {c : Code} {D : va_G} {cI cZ cG cL : ClassId} {am : Nat → Nat} (C0 : gk_F p s m args meth c cX9_weigh 7 (some .int) RX9) (hK : gk_K D cI cZ cG cL s) {fP1 : Nat → Int32} {qP1 : Nat} (hxP1 : mk_D D cI am qP1 12 fP1 s.heap) {Q : Int32 → gk_C → Prop} {k126 : gk_C → Int32 → Int32 → Prop} (hk126 : ∀ (σ : gk_C) (x4 : Int32) (x5 : Int32), k126 σ x4 x5 → ∀ (H : Heap) (locs : List Loc), mk_W D cI cZ am σ H → va_S (mk_A am s.heap.size) s.heap H locs → ∀ (ls : Array Slot), lv_has ls 7 [(0, .ref (am 38)), (4, .int x4), (5, .int x5)] → W p l e rmX9_weigh s m args below meth c H locs 0 0 (MQ below (va_Qi (fun r u => Q r u) (mk_B (mk_W D cI cZ am)) (mk_A am s.heap.size)) args s 0 0 (mk_A am s.heap.size)) (F0 m 126 ls [])) : ∀ (n : Nat) (σ : gk_C) (x4 : Int32) (x5 : Int32) (x6 : Int32), wL_X9_weigh_76 fP1 k126 n σ x4 x5 x6 → ∀ (H : Heap) (locs : List Loc), mk_W D cI cZ am σ H → va_S (mk_A am s.heap.size) s.heap H locs → ∀ (ls : Array Slot), lv_has ls 7 [(0, .ref (am 38)), (2, .ref qP1), (4, .int x4), (5, .int x5), (6, .int x6)] → W p l e rmX9_weigh s m args below meth c H locs 0 0 (MQ below (va_Qi (fun r u => Q r u) (mk_B (mk_W D cI cZ am)) (mk_A am s.heap.size)) args s 0 0 (mk_A am s.heap.size)) (F0 m 76 ls []) := by
  obtain ⟨hx, hb, hml, hown, hts, hr, hlocks⟩ := id C0
  intro n
  induction n with
  | zero => exact fun _ _ _ _ hw => False.elim hw
  | succ n ih =>
    intro σ x4 x5 x6 hw H locs hW hS  ls hl
    refine lv_iload hx hb dX9_weigh_76 (lv_at hl 4 rfl) ?_
    refine lv_aload_n hx hb dX9_weigh_78 rfl (lv_at hl 0 rfl) ?_
    refine gk_get hx hb hts iwX9 hown hK.1 (mk_objW hW) rfl 16 (by decide) (hts _ fl_X9_165) (fun _ h9 => h9) rfl dX9_weigh_79 ?_
    refine lv_icmp_ge (tgt := 126) hx hb dX9_weigh_82 (by decide) (fun c82 => ?_) (fun c82 => ?_)
    · have hw := hw.1 c82
      exact hk126 σ x4 x5 hw _ _ hW hS  _ (lv_sub hl [0, 2, 3] rfl)
    · have hw := hw.2 c82
      refine lv_aload_n hx hb dX9_weigh_85 rfl (lv_at hl 0 rfl) ?_
      refine gk_get hx hb hts iwX9 hown hK.1 (mk_objW hW) rfl 37 (by decide) (hts _ fl_X9_99) (fun _ h9 => h9) rfl dX9_weigh_86 ?_
      refine lv_iload hx hb dX9_weigh_89 (lv_at hl 4 rfl) ?_
      refine lv_aload_n hx hb dX9_weigh_91 rfl (lv_at hl 0 rfl) ?_
      refine gk_get hx hb hts iwX9 hown hK.1 (mk_objW hW) rfl 19 (by decide) (hts _ fl_X9_48) (fun _ h9 => h9) rfl dX9_weigh_92 ?_
      refine lv_iload hx hb dX9_weigh_95 (lv_at hl 4 rfl) ?_
      obtain ⟨hin, hw⟩ := hw
      refine gk_iald hx hb hK.1 0 (mk_arrW hW (k := 19) (by decide)) rfl hin dX9_weigh_97 ?_
      refine lv_bipush (v := 12) hx hb dX9_weigh_98 (by decide) ?_
      refine lv_icmp_ge (tgt := 107) hx hb dX9_weigh_100 (by decide) (fun c100 => ?_) (fun c100 => ?_)
      · have hw := hw.1 c100
        refine lv_aload_n hx hb dX9_weigh_107 rfl (lv_at hl 1 rfl) ?_
        refine lv_aload_n hx hb dX9_weigh_108 rfl (lv_at hl 0 rfl) ?_
        refine gk_get hx hb hts iwX9 hown hK.1 (mk_objW hW) rfl 19 (by decide) (hts _ fl_X9_48) (fun _ h9 => h9) rfl dX9_weigh_109 ?_
        refine lv_iload hx hb dX9_weigh_112 (lv_at hl 4 rfl) ?_
        obtain ⟨hin, hw⟩ := hw
        refine gk_iald hx hb hK.1 0 (mk_arrW hW (k := 19) (by decide)) rfl hin dX9_weigh_114 ?_
        refine lv_bipush (v := 12) hx hb dX9_weigh_115 (by decide) ?_
        refine lv_isub hx hb dX9_weigh_117 ?_
        obtain ⟨hin, hw⟩ := hw
        refine gk_iald hx hb hK.1 0 (hxP1.S hS).1 rfl hin dX9_weigh_118 ?_
        refine tJ_X9_weigh_119 C0 hK hxP1 (hk76 := ih) σ x4 x5 x6 x6 (fP1 ((σ.1 19 x6.toNatClampNeg) - 12).toNatClampNeg) hw _ _ hW hS  _ hl
      · have hw := hw.2 c100
        refine lv_iconst (v := 0) hx hb dX9_weigh_103 (by decide) ?_
        refine lv_goto (tgt := 119) hx hb dX9_weigh_104 (by decide) ?_
        refine tJ_X9_weigh_119 C0 hK hxP1 (hk76 := ih) σ x4 x5 x6 x6 0 hw _ _ hW hS  _ hl
set_option maxHeartbeats 4000000 in
set_option maxRecDepth 100000 in
theorem c_X9_weigh (l : Launch) (D : va_G) (cI cZ cG cL : ClassId) (am : Nat → Nat) {σ : gk_C} {a0 : Int32} {fP1 : Nat → Int32} {a2 : Int32} {a3 : Int32} {qP1 : Nat} {Q : Int32 → gk_C → Prop} {sz : Nat} (hw : w_X9_weigh σ a0 fP1 a2 a3 Q) : Met l yX9_weigh wsX9_weigh rmX9_weigh (mk_Pc (mk_W D cI cZ am) D cI cZ cG cL [.ref (am 38), .int a0, .ref qP1, .int a2, .int a3] sz σ (fun H => mk_D D cI am qP1 12 fP1 H ∧ True)) (va_Qi (fun r u => Q r u) (mk_B (mk_W D cI cZ am)) (mk_A am sz)) 0 0 (mk_A am sz) := by
  refine Met.ofW (cc := cX9_weigh) (maxL := 7) (ret := (some .int)) (by decide) rfl ?_
  intro p e s m args below meth c s₁ B hml0 hv0
  obtain ⟨rfl, hsz, hW, hK, hX⟩ := hv0
  subst hsz
  obtain ⟨hxP1, _⟩ := hX
  have C0 : gk_F p s m ([.ref (am 38), .int a0, .ref qP1, .int a2, .int a3] : List Value).toArray meth c cX9_weigh 7 (some .int) RX9 := ⟨B.exec, B.bytes, hml0, findClass_of_methodNamed B.named, fun w hw => atoms_spec (ws := wsX9_weigh) B.pre w (List.mem_cons_of_mem _ hw), B.returns, B.notSynchronized⟩
  obtain ⟨hx, hb, hml, hown, hts, hr, hlocks⟩ := id C0
  have hS : va_S (mk_A am s.heap.size) s.heap s.heap [] := va_S.rf
  have hl := lv_entry ([.ref (am 38), .int a0, .ref qP1, .int a2, .int a3]) (n := 7) (Nat.le_of_ble_eq_true rfl)
  rw [lg_entry_eq]
  generalize (lg_sl ([.ref (am 38), .int a0, .ref qP1, .int a2, .int a3]) ++ List.replicate (7 - (lg_sl ([.ref (am 38), .int a0, .ref qP1, .int a2, .int a3])).length) Slot.unset).toArray = ls at hl ⊢
  have hl : lv_has ls 7 [(0, .ref (am 38)), (1, .int a0), (2, .ref qP1), (3, .int a2), (4, .int a3)] := hl
  show W p l e rmX9_weigh s m _ below meth c s.heap [] 0 0 _ _
  refine lv_iload_n hx hb dX9_weigh_0 rfl (lv_at hl 1 rfl) ?_
  refine lv_if_ne (tgt := 6) hx hb dX9_weigh_1 (by decide) (fun c1 => ?_) (fun c1 => ?_)
  · have hw := hw.1 c1
    refine lv_iload hx hb dX9_weigh_6 (lv_at hl 4 rfl) ?_
    refine lv_iconst (v := 1) hx hb dX9_weigh_8 (by decide) ?_
    refine lv_icmp_ne (tgt := 19) hx hb dX9_weigh_9 (by decide) (fun c9 => ?_) (fun c9 => ?_)
    · have hw := hw.1 c9
      refine lv_iload_n hx hb dX9_weigh_19 rfl (lv_at hl 1 rfl) ?_
      refine lv_istore (lv' := [(5, .int a0), (0, .ref (am 38)), (1, .int a0), (2, .ref qP1), (3, .int a2), (4, .int a3)]) hx hb dX9_weigh_20 hl (by decide) rfl (fun ls hl => ?_)
      refine lv_iload hx hb dX9_weigh_22 (lv_at hl 5 rfl) ?_
      refine lv_iconst (v := 2) hx hb dX9_weigh_24 (by decide) ?_
      refine lv_icmp_ne (tgt := 134) hx hb dX9_weigh_25 (by decide) (fun c25 => ?_) (fun c25 => ?_)
      · have hw := hw.1 c25
        refine tJ_X9_weigh_134 C0 hK hxP1  σ a3 a0 hw _ _ hW hS  _ (lv_sub hl [1, 5, 0] rfl)
      · have hw := hw.2 c25
        refine lv_iconst (v := 0) hx hb dX9_weigh_28 (by decide) ?_
        refine lv_istore (lv' := [(6, .int 0), (5, .int a0), (0, .ref (am 38)), (1, .int a0), (2, .ref qP1), (3, .int a2), (4, .int a3)]) hx hb dX9_weigh_29 hl (by decide) rfl (fun ls hl => ?_)
        obtain ⟨n31, hw⟩ := hw
        refine tL_X9_weigh_31 C0 hK hxP1 (hk65 := ?_) n31 σ a2 a3 a0 0 hw _ _ hW hS  _ (lv_sub hl [2, 4, 5, 6, 1, 0] rfl)
        · intro σ x4 x5 hw H locs hW hS  ls hl
          refine lv_aload_n hx hb dX9_weigh_65 rfl (lv_at hl 0 rfl) ?_
          refine lv_iload hx hb dX9_weigh_66 (lv_at hl 3 rfl) ?_
          refine mk_callRi ⟨hx, hb, hml, hown, hts⟩ (c_X9_leastOf l D cI cZ cG cL am hw) (cwV 1 hts (gk_gV ml_X9_212 im_X9_leastOf se_X9_leastOf in_X9 co_X9_leastOf) rfl rfl rfl (by decide +kernel) ⟨Nat.le_of_ble_eq_true rfl, Nat.le_of_ble_eq_true rfl⟩) (gk_recv hK.1 (mk_objW hW) rfl) hW hK trivial hS rfl hl.1 (rest := []) rfl (lv_room (Nat.le_of_ble_eq_true rfl)) dX9_weigh_68 ⟨Nat.le_of_ble_eq_true rfl, Nat.le_of_ble_eq_true rfl⟩ (fun r68 H locs hw hW _ hk hS => ?_)
          refine lv_istore (lv' := [(5, .int r68), (0, .ref (am 38)), (2, .ref qP1), (4, .int x4)]) hx hb dX9_weigh_71 hl (by decide) rfl (fun ls hl => ?_)
          refine lv_iconst (v := 0) hx hb dX9_weigh_73 (by decide) ?_
          refine lv_istore (lv' := [(6, .int 0), (5, .int r68), (0, .ref (am 38)), (2, .ref qP1), (4, .int x4)]) hx hb dX9_weigh_74 hl (by decide) rfl (fun ls hl => ?_)
          obtain ⟨n76, hw⟩ := hw
          refine tL_X9_weigh_76 C0 hK hxP1 (hk126 := ?_) n76 σ x4 r68 0 hw _ _ hW hS  _ (lv_sub hl [2, 3, 4, 1, 0] rfl)
          · intro σ x4 x5 hw H locs hW hS  ls hl
            refine lv_aload_n hx hb dX9_weigh_126 rfl (lv_at hl 0 rfl) ?_
            refine lv_iload hx hb dX9_weigh_127 (lv_at hl 2 rfl) ?_
            refine mk_callRi ⟨hx, hb, hml, hown, hts⟩ (c_X9_leastOf l D cI cZ cG cL am hw) (cwV 1 hts (gk_gV ml_X9_212 im_X9_leastOf se_X9_leastOf in_X9 co_X9_leastOf) rfl rfl rfl (by decide +kernel) ⟨Nat.le_of_ble_eq_true rfl, Nat.le_of_ble_eq_true rfl⟩) (gk_recv hK.1 (mk_objW hW) rfl) hW hK trivial hS rfl hl.1 (rest := []) rfl (lv_room (Nat.le_of_ble_eq_true rfl)) dX9_weigh_129 ⟨Nat.le_of_ble_eq_true rfl, Nat.le_of_ble_eq_true rfl⟩ (fun r129 H locs hw hW _ hk hS => ?_)
            refine lv_istore (lv' := [(5, .int r129), (0, .ref (am 38)), (4, .int x4)]) hx hb dX9_weigh_132 hl (by decide) rfl (fun ls hl => ?_)
            refine tJ_X9_weigh_134 C0 hK hxP1  σ x4 r129 hw _ _ hW hS  _ (lv_sub hl [1, 2, 0] rfl)
    · have hw := hw.2 c9
      refine lv_aload_n hx hb dX9_weigh_12 rfl (lv_at hl 0 rfl) ?_
      refine lv_iload_n hx hb dX9_weigh_13 rfl (lv_at hl 1 rfl) ?_
      refine lv_iconst (v := 1) hx hb dX9_weigh_14 (by decide) ?_
      refine mk_callRi ⟨hx, hb, hml, hown, hts⟩ (c_X9_firstOfW l D cI cZ cG cL am hw) (cwV 2 hts (gk_gV ml_X9_208 im_X9_firstOf se_X9_firstOf in_X9 co_X9_firstOf) rfl rfl rfl (by decide +kernel) ⟨Nat.le_of_ble_eq_true rfl, Nat.le_of_ble_eq_true rfl⟩) (gk_recv hK.1 (mk_objW hW) rfl) hW hK trivial hS rfl hl.1 (rest := []) rfl (lv_room (Nat.le_of_ble_eq_true rfl)) dX9_weigh_15 ⟨Nat.le_of_ble_eq_true rfl, Nat.le_of_ble_eq_true rfl⟩ (fun r15 H locs hw hW _ hk hS => ?_)
      refine W.widen (k := 0) (n := 0) (Nat.le_of_ble_eq_true rfl) (Nat.le_of_ble_eq_true rfl) ?_
      exact mk_reti C0 hw hW hS dX9_weigh_18
  · have hw := hw.2 c1
    refine lv_iconst (v := (-1)) hx hb dX9_weigh_4 (by decide) ?_
    refine W.widen (k := 0) (n := 0) (Nat.le_of_ble_eq_true rfl) (Nat.le_of_ble_eq_true rfl) ?_
    exact mk_reti C0 hw hW hS dX9_weigh_5
