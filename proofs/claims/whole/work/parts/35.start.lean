/-! ===== the law: its start ===== -/
theorem df_X9 : ∀ j, j < 38 → defaultValue (tyX9 j) = vp_V [.int 0, .int 0, .int 0, .int 0, .null, .null, .null, .int 0, .null, .int 0, .null, .int 0, .null, .null, .null, .null, .int 0, .null, .null, .null, .null, .null, .null, .null, .null, .null, .int 0, .null, .null, .null, .null, .null, .null, .null, .null, .int 0, .null, .null] j := by
  exact (gk_ls (gk_ls (gk_ls (gk_ls (gk_ls (gk_ls (gk_ls (gk_ls (gk_ls (gk_ls (gk_ls (gk_ls (gk_ls (gk_ls (gk_ls (gk_ls (gk_ls (gk_ls (gk_ls (gk_ls (gk_ls (gk_ls (gk_ls (gk_ls (gk_ls (gk_ls (gk_ls (gk_ls (gk_ls (gk_ls (gk_ls (gk_ls (gk_ls (gk_ls (gk_ls (gk_ls (gk_ls (gk_ls (gk_lz (P := fun j => defaultValue (tyX9 j) = vp_V [.int 0, .int 0, .int 0, .int 0, .null, .null, .null, .int 0, .null, .int 0, .null, .int 0, .null, .null, .null, .null, .int 0, .null, .null, .null, .null, .null, .null, .null, .null, .null, .int 0, .null, .null, .null, .null, .null, .null, .null, .null, .int 0, .null, .null] j)) rfl) rfl) rfl) rfl) rfl) rfl) rfl) rfl) rfl) rfl) rfl) rfl) rfl) rfl) rfl) rfl) rfl) rfl) rfl) rfl) rfl) rfl) rfl) rfl) rfl) rfl) rfl) rfl) rfl) rfl) rfl) rfl) rfl) rfl) rfl) rfl) rfl) rfl)
theorem gk_offL : ∀ k, k < 87 → gk_off.getD k 0 < 87 := by decide +kernel
theorem mk_offL : ∀ k, k ∈ mk_ars → mk_off.getD k 0 < 28 := by decide +kernel
theorem gk_adB (g : Nat) {k : Nat} (h : k < 87) : g ≤ gk_ad g k ∧ gk_ad g k < g + 87 := ⟨Nat.le_add_right _ _, Nat.add_lt_add_left (gk_offL k h) g⟩
theorem mk_amB (a : Nat) {k : Nat} (h : k ∈ 38 :: mk_ars) : a ≤ mk_am a (a + 1) k ∧ mk_am a (a + 1) k < a + 29 := by
  unfold mk_am
  by_cases h1 : k = 38
  · rw [if_pos h1]; omega
  · rw [if_neg h1]
    have := mk_offL k ((List.mem_cons.mp h).resolve_left h1)
    omega
theorem lo_D0 (g : Nat) : lo_D (gk_ad g) (mk_am (g + 87) (g + 87 + 1)) (g + 116) g := by
  refine ⟨fun k hk j hj e => ?_, fun k hk e => ?_, fun j hj e => ?_, fun k hk => (gk_adB g hk).1, fun j hj => ?_, by omega⟩
  · have h1 := gk_adB g hk
    have h2 := mk_amB (g + 87) hj
    omega
  · have h1 := gk_adB g hk
    omega
  · have h2 := mk_amB (g + 87) hj
    omega
  · have h2 := mk_amB (g + 87) hj
    omega
section GKN
variable {p : Program} {l : Launch} {e : Env} {R : Room} {s : State} {m : MethodId} {args : Array Value} {below : List Frame} {meth : Method} {c : Code} {H : Heap} {locs : List Loc} {cells slots : Nat} {Q : State → Prop}
variable {D : va_G} {cI cZ cG cL : ClassId} {cc : ByteArray} {pc a nL : Nat} {ls : Array Slot} {rest st0 : List Value} {A : Nat → Prop} {H0 : Heap} {tys : List (ClassId × FieldType)}
variable {y : MethodName} {ws : List Cond} {rm : Room} {own : String} {index n maxL mc ms N : Nat} {bytes : ByteArray} {Ts : List Cond} {b : Addr} {As : List Value}
/-- a new row of longs -/
theorem gk_newl (hexec : p.tables.exec = Jvm.exec) (hb : c.code = cc) (harr : (Cond.arrayClass .long).before args s = true) (hK : gk_K D cI cZ cG cL s) (hS : va_S A H0 H locs) {n : Int32} {N' : Nat} (hn : ¬ n < 0) (hN : n.toNatClampNeg = N') (hby : N' * 8 ≤ 536870912) (hf : cells + 1 ≤ R.cells ∧ slots + N' ≤ R.slots) (hdg : decode cc pc = .ok (.newarray .long, 2))
    (kk : ∀ (q : Nat) (H1 : Heap), va_at D vwCl (q, .inl (cL, (N', .inr (.inl (fun _ => 0))))) H1 → q = H.size → H1.size = H.size + 1 → (∀ z : Nat, z < H.size → H1[z]? = H[z]?) → va_S A H0 H1 locs → W p l e R s m args below meth c H1 locs (cells + 1) (slots + N') Q (F0 m (pc + 2) ls (.ref q :: rest))) : W p l e R s m args below meth c H locs cells slots Q (F0 m pc ls (.int n :: rest)) := by
  subst hN
  refine W.newa (atype := .long) hexec hb harr rfl hdg rfl hn hby hf.1 hf.2 fun cA kA comp f1 f2 f3 => ?_
  have hcA : cA = cL := by
    have h2 := (hK.1.2 3 (cL, .long) rfl).2
    have h3 : s.vm.findClass ("[" ++ FieldType.long.toString) = some cL := h2
    exact Option.some.inj (f1.symm.trans h3)
  subst hcA
  have e1 : (H.push ({ cls := cA, slots := Array.replicate n.toNatClampNeg (defaultValue (newarray.typeOf .long)), vm := .none } : Cell))[H.size]? = some (vp_cell cA (n.toNatClampNeg, .inr (.inl (fun _ => 0)))) := by
    rw [Array.getElem?_push_size, vp_cell_l]
    congr 1
    exact arrV_new cA _ _
  have e2 : ∀ z : Nat, z < H.size → (H.push ({ cls := cA, slots := Array.replicate n.toNatClampNeg (defaultValue (newarray.typeOf .long)), vm := .none } : Cell))[z]? = H[z]? := fun z hz => by
    rw [Array.getElem?_push_lt hz, Array.getElem?_eq_getElem hz]
  refine kk H.size _ e1 rfl (by rw [Array.size_push]) e2 ⟨Nat.le_trans hS.1 (by rw [Array.size_push]; omega), fun q h1 h2 => (e2 q (Nat.lt_of_lt_of_le h1 hS.1)).trans (hS.2.1 q h1 h2), hS.2.2⟩
end GKN
set_option maxHeartbeats 4000000 in
set_option maxRecDepth 100000 in
theorem lo_start {p : Program} {l : Launch} {e : Env} {s : State} {m : MethodId} {below : List Frame} {meth : Method} {c : Code} {D : va_G} {cI cZ cG cL : ClassId} {q1 q2 q3 b L : Nat} {xs : Nat → Int32} (hx : p.tables.exec = Jvm.exec) (hb : c.code = cL_law) (hml : c.maxLocals = 9) (hown : s.vm.findClass RL = some m.cls) (hts : ∀ w ∈ gk_BG, w.before #[Value.ref b] s = true) (hr : meth.sig.returnType = some .boolean) (hlocks : meth.locks = false) (hfl : l.stackTraces = false) (hK : gk_K D cI cZ cG cL s) (hY : gk_Y q1 q2 q3 (lo_A s.heap.size) s s.heap) (hN : gk_NC s) (hX : va_X b L xs s s.heap) (hbl : b < s.heap.size)
    {cs : List Choice} (hnb : nanBits ∈ cs) {I : gk_C → gk_C → Prop} {Q : State → Prop} (hH : lo_H I) (hI : I gk_0 mk_0) (hL : L ≤ 3584) (hE : lo_End cs p l e room_1 s m below meth c b (117 + 60 * 513) (2965 + 6000 * 513) Q) : W p l e room_1 s m #[Value.ref b] below meth c s.heap [] 0 0 Q (entryFrame m ([Value.ref b] : List Value).toArray 9) := by
  have hl := lv_entry ([.ref b]) (n := 9) (Nat.le_of_ble_eq_true rfl)
  rw [lg_entry_eq]
  generalize (lg_sl ([.ref b]) ++ List.replicate (9 - (lg_sl ([.ref b])).length) Slot.unset).toArray = ls at hl ⊢
  have hl : lv_has ls 9 [(0, .ref b)] := hl
  have hS : va_S (lo_A s.heap.size) s.heap s.heap [] := va_S.rf
  have hgb : b ≠ s.heap.size := by omega
  show W p l e room_1 s m _ below meth c s.heap [] 0 0 _ _
  refine gk_new (fs := [.null, .null, .null, .null]) hx hb hts iwX8 tyX8 tyX8_ok hown (hts _ cl_L_8) (hts _ it_X8) (hts _ in_X8) hK.1 hS (ci := 8) rfl df_X8 ⟨Nat.le_of_ble_eq_true rfl, Nat.le_of_ble_eq_true rfl⟩ dL_law_0 (fun q H hn q1 z1 hk hS => ?_)
  subst q1
  refine lv_dup hx hb dL_law_3 rfl ?_
  refine gk_ctor ⟨hx, hb, hml, hown, hts⟩ (c_X8_init l D cI cZ cG cL) (cwI 0 hts (gk_gI co_X8_init) rfl rfl rfl (hts _ in_X8) (hts _ ml_L_123) (hts _ im_X8_init) rfl (by decide +kernel) ⟨Nat.le_of_ble_eq_true rfl, Nat.le_of_ble_eq_true rfl⟩) hn hK hS (Nat.le_refl _) (fun q h => h) rfl hl.1 (As := []) (rest := [.ref s.heap.size]) rfl (lv_room (Nat.le_of_ble_eq_true rfl)) dL_law_4 ⟨Nat.le_of_ble_eq_true rfl, Nat.le_of_ble_eq_true rfl⟩ (fun H locs z2 hP hk hS => ?_)
  rw [z1] at hP z2
  have hG := gk_iW hP
  refine lv_astore_n (lv' := [(1, .ref s.heap.size), (0, .ref b)]) hx hb dL_law_7 rfl hl (by decide) rfl (fun ls hl => ?_)
  refine gk_new (fs := [.int 0, .int 0, .int 0, .int 0, .null, .null, .null, .int 0, .null, .int 0, .null, .int 0, .null, .null, .null, .null, .int 0, .null, .null, .null, .null, .null, .null, .null, .null, .null, .int 0, .null, .null, .null, .null, .null, .null, .null, .null, .int 0, .null, .null]) hx hb hts iwX9 tyX9 tyX9_ok hown (hts _ cl_L_124) (hts _ it_X9) (hts _ in_X9) hK.1 hS (ci := 9) rfl df_X9 ⟨Nat.le_of_ble_eq_true rfl, Nat.le_of_ble_eq_true rfl⟩ dL_law_8 (fun q H hn q1 z3 hk hS => ?_)
  have hG := hG.kept (fun k hk9 => hk _ (hG.lt hk9))
  obtain rfl : q = s.heap.size + 87 := by omega
  have z4 : H.size = s.heap.size + 87 + 1 := by omega
  refine lv_dup hx hb dL_law_11 rfl ?_
  refine gk_ctor ⟨hx, hb, hml, hown, hts⟩ (c_X9_init l D cI cZ cG cL) (cwI 0 hts (gk_gI co_X9_init) rfl rfl rfl (hts _ in_X9) (hts _ ml_L_126) (hts _ im_X9_init) rfl (by decide +kernel) ⟨Nat.le_of_ble_eq_true rfl, Nat.le_of_ble_eq_true rfl⟩) hn hK hS (Nat.le_add_right _ _) (fun q h => h) rfl hl.1 (As := []) (rest := [.ref (s.heap.size + 87)]) rfl (lv_room (Nat.le_of_ble_eq_true rfl)) dL_law_12 ⟨Nat.le_of_ble_eq_true rfl, Nat.le_of_ble_eq_true rfl⟩ (fun H locs z5 hM hk hS => ?_)
  rw [z4] at hM z5
  have hG := hG.kept (fun k hk9 => hk _ (hG.lt hk9) (by have := gk_adB s.heap.size hk9; omega))
  refine lv_astore_n (lv' := [(2, .ref (s.heap.size + 87)), (1, .ref s.heap.size), (0, .ref b)]) hx hb dL_law_15 rfl hl (by decide) rfl (fun ls hl => ?_)
  refine lv_iconst (v := 1) hx hb dL_law_16 (by decide) ?_
  refine gk_newl (N' := 1) hx hb (hts _ ac_long) hK hS (by decide) (by decide) (by decide) ⟨Nat.le_of_ble_eq_true rfl, Nat.le_of_ble_eq_true rfl⟩ dL_law_17 (fun q H hO q2 z6 hk hS => ?_)
  have hG := hG.kept (fun k hk9 => hk _ (hG.lt hk9))
  have hM := hM.keptAll hk
  obtain rfl : q = s.heap.size + 116 := by omega
  refine lv_astore_n (lv' := [(3, .ref (s.heap.size + 116)), (2, .ref (s.heap.size + 87)), (1, .ref s.heap.size), (0, .ref b)]) hx hb dL_law_19 rfl hl (by decide) rfl (fun ls hl => ?_)
  refine lv_iconst (v := 0) hx hb dL_law_20 (by decide) ?_
  refine lv_istore (lv' := [(4, .int (nI (7 * 0))), (3, .ref (s.heap.size + 116)), (2, .ref (s.heap.size + 87)), (1, .ref s.heap.size), (0, .ref b)]) hx hb dL_law_21 hl (by decide) rfl (fun ls hl => ?_)
  refine W.widen (k := 117 + 60 * 0) (n := 2965 + 6000 * 0) (Nat.le_of_ble_eq_true rfl) (Nat.le_of_ble_eq_true rfl) ?_
  refine W.base ?_
  exact lo_loop (ad := gk_ad s.heap.size) (am := mk_am (s.heap.size + 87) (s.heap.size + 87 + 1)) (oa := s.heap.size + 116) (xs := xs) ⟨hx, hb, hml, hown, hts, hr, hlocks, hfl, hK, hY, hN, lo_D0 _, hX, hbl⟩ hnb hH hL (by show 117 + 60 * 513 ≤ 601024; omega) (by show 2965 + 6000 * 513 ≤ 7293034; omega) hE 513 0 rfl hI ⟨hG, hM.V, ⟨_, rfl, hO⟩⟩ hS (Drawn.sameBut.refl s.drawn cs) (lv_sub hl [4, 3, 2, 1, 0] rfl)
