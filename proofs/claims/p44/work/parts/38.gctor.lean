/-! ===== the Gate's constructor ===== -/
theorem gk_lz {P : Nat → Prop} : ∀ r, r < 0 → P r := fun r h => absurd h (Nat.not_lt_zero r)
theorem gk_ls {P : Nat → Prop} {n : Nat} (h : ∀ r, r < n → P r) (h1 : P n) : ∀ r, r < n + 1 → P r := fun r hr => by
  rcases Nat.lt_or_ge r n with h2 | h2
  · exact h r h2
  · obtain rfl : r = n := by omega
    exact h1
def gk_off : List Nat := [0, 1, 2, 11, 16, 27, 46, 59, 72, 3, 5, 7, 9, 12, 14, 17, 19, 21, 23, 25, 28, 30, 32, 34, 36, 38, 40, 42, 44, 47, 49, 51, 53, 55, 57, 60, 62, 64, 66, 68, 70, 73, 75, 77, 79, 81, 83, 85, 4, 6, 8, 10, 13, 15, 18, 20, 22, 24, 26, 29, 31, 33, 35, 37, 39, 41, 43, 45, 48, 50, 52, 54, 56, 58, 61, 63, 65, 67, 69, 71, 74, 76, 78, 80, 82, 84, 86]
def gk_ad (g k : Nat) : Nat := g + gk_off.getD k 0
def gk_S0 : Nat → Int32 | 3 => 1 | _ => 0
def gk_0 : gk_C := (fun r => if r = 9 then gk_fill 24 (-1) (fun _ => 0) else fun _ => 0, gk_S0)
theorem gk_offI : ∀ i, i < 87 → ∀ j, j < 87 → gk_off.getD i 0 = gk_off.getD j 0 → i = j := by decide +kernel
theorem gk_fill0 (n : Nat) : gk_fill n 0 (fun _ => 0) = fun _ => 0 := by funext k; simp [gk_fill]
set_option maxHeartbeats 4000000 in
set_option maxRecDepth 100000 in
theorem gk_iW {D : va_G} {cI : ClassId} {g : Nat} {H : Heap} (h : gk_i8 D cI g (g + 1) H) : gk_W D cI (gk_ad g) gk_0 H := by
  obtain ⟨o8, h4, v0, v1, r38⟩ := h
  obtain ⟨o4, h6, h1, h5, h3, h0⟩ := h4
  obtain ⟨o6, r0, r1, r2, r3⟩ := h6
  obtain ⟨o1, r4, r5⟩ := h1
  obtain ⟨o5, r6, r7, r8, r9, r10⟩ := h5
  obtain ⟨o3, r11, r12, r13, r14, r15, r16, r17, r18, r19⟩ := h3
  obtain ⟨o0, r20, r21, r22, r23, r24, r25⟩ := h0
  obtain ⟨ov0, r26, r27, r28, r29, r30, r31⟩ := v0
  obtain ⟨ov1, r32, r33, r34, r35, r36, r37⟩ := v1
  unfold gk_rw at r0 r1 r2 r3 r4 r5 r6 r7 r8 r9 r10 r11 r12 r13 r14 r15 r16 r17 r18 r19 r20 r21 r22 r23 r24 r25 r26 r27 r28 r29 r30 r31 r32 r33 r34 r35 r36 r37 r38
  rw [gk_fill0] at r0 r1 r2 r3 r4 r5 r6 r7 r8 r10 r11 r12 r13 r14 r15 r16 r17 r18 r19 r20 r21 r22 r23 r24 r25 r26 r27 r28 r29 r30 r31 r32 r33 r34 r35 r36 r37 r38
  refine ⟨fun i j hi hj e => gk_offI i hi j hj (Nat.add_left_cancel e), fun k hk => ?_, fun v hv => ?_, fun r hr => ?_, fun r hr => ?_⟩
  · match k, hk with
    | 0, _ => exact o8
    | 1, _ => exact o4
    | 2, _ => exact o6
    | 3, _ => exact o1
    | 4, _ => exact o5
    | 5, _ => exact o3
    | 6, _ => exact o0
  · match v, hv with
    | 0, _ => exact ov0
    | 1, _ => exact ov1
  · exact (gk_ls (gk_ls (gk_ls (gk_ls (gk_ls (gk_ls (gk_ls (gk_ls (gk_ls (gk_ls (gk_ls (gk_ls (gk_ls (gk_ls (gk_ls (gk_ls (gk_ls (gk_ls (gk_ls (gk_ls (gk_ls (gk_ls (gk_ls (gk_ls (gk_ls (gk_ls (gk_ls (gk_ls (gk_ls (gk_ls (gk_ls (gk_ls (gk_ls (gk_ls (gk_ls (gk_ls (gk_ls (gk_ls (gk_ls (gk_lz (P := fun r => va_at D vwCl (gk_ad g (9 + r), .inr (2, [.ref (gk_ad g (48 + r))])) H)) r0.1) r1.1) r2.1) r3.1) r4.1) r5.1) r6.1) r7.1) r8.1) r9.1) r10.1) r11.1) r12.1) r13.1) r14.1) r15.1) r16.1) r17.1) r18.1) r19.1) r20.1) r21.1) r22.1) r23.1) r24.1) r25.1) r26.1) r27.1) r28.1) r29.1) r30.1) r31.1) r32.1) r33.1) r34.1) r35.1) r36.1) r37.1) r38.1) r hr
  · exact (gk_ls (gk_ls (gk_ls (gk_ls (gk_ls (gk_ls (gk_ls (gk_ls (gk_ls (gk_ls (gk_ls (gk_ls (gk_ls (gk_ls (gk_ls (gk_ls (gk_ls (gk_ls (gk_ls (gk_ls (gk_ls (gk_ls (gk_ls (gk_ls (gk_ls (gk_ls (gk_ls (gk_ls (gk_ls (gk_ls (gk_ls (gk_ls (gk_ls (gk_ls (gk_ls (gk_ls (gk_ls (gk_ls (gk_ls (gk_lz (P := fun r => va_at D vwCl (gk_ad g (48 + r), .inl (cI, (gk_rl r, .inl (gk_0.1 r)))) H)) r0.2) r1.2) r2.2) r3.2) r4.2) r5.2) r6.2) r7.2) r8.2) r9.2) r10.2) r11.2) r12.2) r13.2) r14.2) r15.2) r16.2) r17.2) r18.2) r19.2) r20.2) r21.2) r22.2) r23.2) r24.2) r25.2) r26.2) r27.2) r28.2) r29.2) r30.2) r31.2) r32.2) r33.2) r34.2) r35.2) r36.2) r37.2) r38.2) r hr
def tk_off : List Nat := [0, 0, 0, 0, 0, 0, 87, 92, 93, 0, 94, 100, 0, 106, 107, 108, 109, 0, 110, 0, 111, 112, 88, 89, 90, 91, 95, 96, 97, 98, 99, 101, 102, 103, 104, 105]
/-- where the constructor of the Gate at a puts its cells, from q on -/
def tk_am (a q k : Nat) : Nat := if k = 0 then a else q + tk_off.getD k 0
def tk_0 (d0 : Int32) : gk_C := (fun r => if r = 13 then upd (fun _ => 0) 0 (-1) else fun _ => 0, fun i => if i = 2 then d0 else if i = 12 then 1 else 0)
theorem tk_offJ : (tk_ix.all fun i => tk_ix.all fun j => decide (i = 0) || decide (j = 0) || decide (i = j) || !decide (tk_off.getD i 0 = tk_off.getD j 0)) = true := by decide +kernel
theorem tk_offI (i : Nat) (j : Nat) (hi : i ∈ tk_ix) (hj : j ∈ tk_ix) (h1 : i ≠ 0) (h2 : j ≠ 0) (e : tk_off.getD i 0 = tk_off.getD j 0) : i = j := by
  have h := List.all_eq_true.mp (List.all_eq_true.mp tk_offJ i hi) j hj
  simp only [Bool.or_eq_true, Bool.not_eq_true', decide_eq_true_eq, decide_eq_false_iff_not] at h
  rcases h with ((h | h) | h) | h
  · exact absurd h h1
  · exact absurd h h2
  · exact h
  · exact absurd e h
theorem tk_offB : ∀ i, i < 36 → i ∈ tk_ix → i ≠ 0 → 87 ≤ tk_off.getD i 0 ∧ tk_off.getD i 0 < 117 ∧ tk_off.getD i 0 ≠ 110 ∧ tk_off.getD i 0 ≠ 111 := by decide +kernel
theorem tk_ix_lt {k : Nat} (h : k ∈ tk_ix) : k < 36 := by
  have := tk_ix_or h
  rcases this with rfl | rfl | rfl | rfl | h | h
  · decide
  · decide
  · decide
  · decide
  · have := tk_ar_no h; omega
  · exact h.2
theorem gk_offL : ∀ k, k < 87 → gk_off.getD k 0 < 87 := by decide +kernel
theorem gk_adB (g : Nat) {k : Nat} (h : k < 87) : g ≤ gk_ad g k ∧ gk_ad g k < g + 87 := ⟨Nat.le_add_right _ _, Nat.add_lt_add_left (gk_offL k h) g⟩
theorem tk_amB {a q k : Nat} (h : k ∈ tk_ix) (h0 : k ≠ 0) : q + 87 ≤ tk_am a q k ∧ tk_am a q k < q + 117 ∧ tk_am a q k ≠ q + 110 ∧ tk_am a q k ≠ q + 111 := by
  have := tk_offB k (tk_ix_lt h) h h0
  unfold tk_am
  rw [if_neg h0]
  omega
section TKC
variable {p : Program} {l : Launch} {e : Env} {R : Room} {s : State} {m : MethodId} {args : Array Value} {below : List Frame} {meth : Method} {c : Code} {H : Heap} {locs : List Loc} {cells slots : Nat} {Q : State → Prop}
variable {D : va_G} {cI cZ cG cL : ClassId} {cc : ByteArray} {pc a nL : Nat} {ls : Array Slot} {rest st0 : List Value} {A : Nat → Prop} {H0 : Heap}
theorem gk_newg {own : String} {index : Nat} (hexec : p.tables.exec = Jvm.exec) (hb : c.code = cc) (hown : s.vm.findClass own = some m.cls) (hclink : (Cond.classLink own index "[I").before args s = true) (hK : gk_K D cI cZ cG cL s) (hS : va_S A H0 H locs) {n : Int32} {N9 : Nat} (hn : ¬ n < 0) (hN : n.toNatClampNeg = N9) (h4 : N9 * 4 ≤ 536870912) (hf : cells + 1 ≤ R.cells ∧ slots + N9 ≤ R.slots) (hdg : decode cc pc = .ok (.anewarray index, 3))
    (kk : ∀ (q : Nat) (H1 : Heap), va_at D vwCl (q, tk_g cG N9 (fun _ => none)) H1 → q = H.size → H1.size = H.size + 1 → (∀ z : Nat, z < H.size → H1[z]? = H[z]?) → va_S A H0 H1 locs → W p l e R s m args below meth c H1 locs (cells + 1) (slots + N9) Q (F0 m (pc + 3) ls (.ref q :: rest))) : W p l e R s m args below meth c H locs cells slots Q (F0 m pc ls (.int n :: rest)) := by
  refine W.anewA (t := .int) hexec hb hown hclink hK.2.2.1 rfl hdg rfl hn (by rw [hN]; exact h4) hf.1 (by rw [hN]; exact hf.2) fun cA kA comp f1 f2 f3 f4 => ?_
  rw [hN]
  have hcA : cA = cG := by
    have h2 := (hK.1.2 2 (cG, .array .int) rfl).2
    have h3 : s.vm.findClass ("[" ++ (FieldType.array .int).toString) = some cG := h2
    exact Option.some.inj (f1.symm.trans h3)
  subst hcA
  have e1 : (H.push ({ cls := cA, slots := Array.replicate N9 .null, vm := .none } : Cell))[H.size]? = some (vp_cell cA (N9, .inr (.inr (.inr (.inr (fun _ => none)))))) := by
    rw [Array.getElem?_push_size, vp_cell_q]
    congr 1
    exact arrV_new cA _ _
  have e2 : ∀ z : Nat, z < H.size → (H.push ({ cls := cA, slots := Array.replicate N9 .null, vm := .none } : Cell))[z]? = H[z]? := fun z hz => by
    rw [Array.getElem?_push_lt hz, Array.getElem?_eq_getElem hz]
  exact kk H.size _ e1 rfl (by rw [Array.size_push]) e2 ⟨Nat.le_trans hS.1 (by rw [Array.size_push]; omega), fun q h1 h2 => (e2 q (Nat.lt_of_lt_of_le h1 hS.1)).trans (hS.2.1 q h1 h2), hS.2.2⟩
/-- new T[n][m] -/
theorem gk_mna {own : String} {index : Nat} {ty : FieldType} {cA cy : ClassId} (hexec : p.tables.exec = Jvm.exec) (hb : c.code = cc) (hown : s.vm.findClass own = some m.cls) (hclink : (Cond.classLink own index ("[" ++ (FieldType.array ty).toString)).before args s = true) (hover : gk_AX ty s) (harr : (Cond.arrayClass ty).before args s = true) (hcA : s.vm.findClass ("[" ++ (FieldType.array ty).toString) = some cA) (hcy : s.vm.findClass (FieldType.array ty).toString = some cy) (hdv : defaultValue ty = .int 0)
    (hS : va_S A H0 H locs) {n k : Int32} {N' K' : Nat} (hn : ¬ n < 0) (hk : ¬ k < 0) (hN : n.toNatClampNeg = N') (hM : k.toNatClampNeg = K') (hb1 : N' * 4 ≤ 536870912) (hb2 : K' * componentBytes ty ≤ 536870912) (hb3 : K' ≤ 536870912) (hdf : fits ty (defaultValue ty) = true) (hf : cells + (1 + N') ≤ R.cells ∧ slots + (N' + N' * K') ≤ R.slots) (hdg : decode cc pc = .ok (.multianewarray index 2, 4))
    (kk : ∀ (q : Nat) (H1 : Heap), va_at D vwCl (q, tk_g cA N' (fun i => if i < N' then some (q + 1 + i) else none)) H1 → (∀ i, i < N' → va_at D vwCl (q + 1 + i, .inl (cy, (K', .inl (fun _ => 0)))) H1) → q = H.size → H1.size = H.size + 1 + N' → (∀ z : Nat, z < H.size → H1[z]? = H[z]?) → va_S A H0 H1 locs →
      W p l e R s m args below meth c H1 locs (cells + 1 + N') (slots + N' + N' * K') Q (F0 m (pc + 4) ls (.ref q :: rest))) : W p l e R s m args below meth c H locs cells slots Q (F0 m pc ls (.int k :: .int n :: rest)) := by
  subst hN
  subst hM
  intro T hT Xs
  obtain ⟨vm₁, cA', comp, -, fA, fC, hO, -, X', step⟩ := Xs.multianewarray2F hexec hown hclink hover harr (g := F0 m pc ls (.int k :: .int n :: rest)) rfl (by rw [hb]; exact hdg) rfl hn hk hb1 hb2 hb3 hdf (by rw [hdv]; rfl) hf.1 hf.2
  cases Option.some.inj (hcA.symm.trans fA)
  cases Option.some.inj (hcy.symm.trans fC)
  generalize hF : Jvm.Free.Multi.fill (T.setVm vm₁) cA cy n.toNatClampNeg k.toNatClampNeg (defaultValue ty) n.toNatClampNeg = F at X' step
  have hTh : (T.setVm vm₁).heap = H := hT
  obtain ⟨f1, f2, -, -⟩ := Jvm.Free.Multi.fill_facts (T.setVm vm₁) cA cy n.toNatClampNeg k.toNatClampNeg (defaultValue ty) n.toNatClampNeg
  rw [hF, hTh] at f1 f2
  have hold : ∀ x : Nat, x < H.size → F.heap[x]? = H[x]? := fun x hx => by
    have := Jvm.Free.Multi.fill_old (T.setVm vm₁) cA cy n.toNatClampNeg k.toNatClampNeg (defaultValue ty) (a := x) (by rw [hTh]; exact hx) n.toNatClampNeg
    rw [hF, hTh] at this
    exact this
  have hz : ∀ c : ClassId, Jvm.Free.Multi.innerC c k.toNatClampNeg (defaultValue ty) = vp_cell c (k.toNatClampNeg, .inl (fun _ => 0)) := fun c => by
    rw [hdv, vp_cell_i]
    exact arrV_new c _ _
  have hrow : ∀ j : Nat, j < n.toNatClampNeg → F.heap[H.size + 1 + j]? = some (vp_cell cy (k.toNatClampNeg, .inl (fun _ => 0))) := fun j hj => by
    have := Jvm.Free.Multi.fill_inner (T.setVm vm₁) cA cy n.toNatClampNeg k.toNatClampNeg (defaultValue ty) n.toNatClampNeg j hj
    rw [hF, hTh, hz] at this
    exact this
  have hout : Jvm.Free.Multi.outerC cA n.toNatClampNeg H.size n.toNatClampNeg = vp_cell cA (n.toNatClampNeg, .inr (.inr (.inr (.inr (fun i => if i < n.toNatClampNeg then some (H.size + 1 + i) else none))))) := by
    rw [vp_cell_q]
    exact vr_outer cA n.toNatClampNeg H.size n.toNatClampNeg
  rw [hout] at f2
  obtain ⟨t, a1, b1⟩ := kk H.size F.heap f2 (fun i hi => hrow i hi) rfl f1 hold ⟨by rw [f1]; have := hS.1; omega, fun x h1 h2 => (hold x (Nat.lt_of_lt_of_le h1 hS.1)).trans (hS.2.1 x h1 h2), hS.2.2⟩ F rfl X'
  refine ⟨t, step t ?_, b1⟩
  have e : T.heap.size = H.size := by rw [hT]
  rw [e]
  exact a1
end TKC
def tk_ct (D : va_G) (cI cZ cG cL : ClassId) (a b0 sz : Nat) (d0 : Int32) (H : Heap) : Prop := (va_at D vwCl (a, .inr (9, [.ref sz, .ref b0, .int d0, .int 0, .int 0, .int 0, .ref (sz + 87), .ref (sz + 92), .ref (sz + 93), .int 0, .ref (sz + 94), .ref (sz + 100), .int 1, .ref (sz + 106), .ref (sz + 107), .ref (sz + 108), .ref (sz + 109), .int 0, .ref (sz + 110), .int 0, .ref (sz + 111), .ref (sz + 112)])) H) ∧ (gk_W D cI (gk_ad sz) gk_0 H) ∧ (va_at D vwCl (sz + 87, tk_g cL 4 (fun i => if i < 4 then some (sz + 87 + 1 + i) else none)) H) ∧ (∀ i, i < 4 → va_at D vwCl (sz + 87 + 1 + i, .inl (cZ, (5, .inl (fun _ => 0)))) H) ∧ (va_at D vwCl (sz + 92, .inl (cI, (4, .inl (fun _ => 0)))) H) ∧ (va_at D vwCl (sz + 93, .inl (cI, (4, .inl (fun _ => 0)))) H) ∧ (va_at D vwCl (sz + 94, tk_g cL 5 (fun i => if i < 5 then some (sz + 94 + 1 + i) else none)) H) ∧ (∀ i, i < 5 → va_at D vwCl (sz + 94 + 1 + i, .inl (cZ, (5, .inl (fun _ => 0)))) H) ∧ (va_at D vwCl (sz + 100, tk_g cL 5 (fun i => if i < 5 then some (sz + 100 + 1 + i) else none)) H) ∧ (∀ i, i < 5 → va_at D vwCl (sz + 100 + 1 + i, .inl (cZ, (5, .inl (fun _ => 0)))) H) ∧ (va_at D vwCl (sz + 106, .inl (cI, (6, .inl (upd (fun _ => 0) (Int32.toNatClampNeg 0) (-1))))) H) ∧ (va_at D vwCl (sz + 107, .inl (cI, (6, .inl (fun _ => 0)))) H) ∧ (va_at D vwCl (sz + 109, .inl (cI, (6, .inl (fun _ => 0)))) H) ∧ (va_at D vwCl (sz + 110, tk_g cG 20 (fun _ => none)) H) ∧ (va_at D vwCl (sz + 111, tk_g cG 20 (fun _ => none)) H) ∧ (va_at D vwCl (sz + 112, tk_g cG 4 (fun i => if i < 4 then some (sz + 112 + 1 + i) else none)) H) ∧ (∀ i, i < 4 → va_at D vwCl (sz + 112 + 1 + i, .inl (cI, (6, .inl (fun _ => 0)))) H) 
set_option maxHeartbeats 4000000 in
set_option maxRecDepth 100000 in
theorem tk_ctW {D : va_G} {cI cZ cG cL : ClassId} {a b0 sz : Nat} {d0 : Int32} {H : Heap} (ha : a < sz) (h : tk_ct D cI cZ cG cL a b0 sz d0 H) : nk_W D cI cZ cL (gk_ad sz) (tk_am a sz) b0 (gk_0, tk_0 d0) H ∧ nk_O D cG (gk_ad sz) (tk_am a sz) (tk_am a sz 18) (fun _ => none) H ∧ nk_O D cG (gk_ad sz) (tk_am a sz) (tk_am a sz 20) (fun _ => none) H := by
  obtain ⟨ho, hG, h6, r6, h7, h8, h10, r10, h11, r11, h13, h14, h16, h18, h20, h21, r21⟩ := h
  have e18 : tk_am a sz 18 = sz + 110 := rfl
  have e20 : tk_am a sz 20 = sz + 111 := rfl
  have nO : ∀ q, q = sz + 110 ∨ q = sz + 111 → (∀ k, k < 87 → q ≠ gk_ad sz k) ∧ ∀ k, k ∈ tk_ix → q ≠ tk_am a sz k := fun q hq => ⟨fun k hk => by have := gk_adB sz hk; omega, fun k hk => by
    by_cases h0 : k = 0
    · subst h0
      show q ≠ a
      omega
    · have := tk_amB (a := a) (q := sz) hk h0
      omega⟩
  refine ⟨⟨hG, ⟨fun i j hi hj e => ?_, ?_, fun k hk => ?_, fun k h1 h2 => ?_, ?_, ?_, ?_⟩, fun i j hi hj e => ?_⟩, ⟨by rw [e18]; exact h18, by rw [e18]; exact nO _ (Or.inl rfl)⟩, ⟨by rw [e20]; exact h20, by rw [e20]; exact nO _ (Or.inr rfl)⟩⟩
  · by_cases h1 : i = 0
    · by_cases h2 : j = 0
      · omega
      · have := tk_amB (a := a) (q := sz) hj h2
        subst h1
        have e : a = tk_am a sz j := e
        omega
    · have g1 := tk_amB (a := a) (q := sz) hi h1
      by_cases h2 : j = 0
      · subst h2
        have e : tk_am a sz i = a := e
        omega
      · refine tk_offI i j hi hj h1 h2 ?_
        unfold tk_am at e
        rw [if_neg h1, if_neg h2] at e
        omega
  · exact ho
  · unfold tk_ar at hk
    simp only [List.mem_cons, List.not_mem_nil, or_false] at hk
    rcases hk with rfl | rfl | rfl | rfl
    · exact h7
    · exact h8
    · exact h13
    · exact h14
  · rcases (show (k = 22 ∨ k = 23 ∨ k = 24 ∨ k = 25) ∨ (k = 26 ∨ k = 27 ∨ k = 28 ∨ k = 29 ∨ k = 30) ∨ (k = 31 ∨ k = 32 ∨ k = 33 ∨ k = 34 ∨ k = 35) by omega) with h | h | h
    · rcases h with rfl | rfl | rfl | rfl
      · exact r6 0 (by decide)
      · exact r6 1 (by decide)
      · exact r6 2 (by decide)
      · exact r6 3 (by decide)
    · rcases h with rfl | rfl | rfl | rfl | rfl
      · exact r10 0 (by decide)
      · exact r10 1 (by decide)
      · exact r10 2 (by decide)
      · exact r10 3 (by decide)
      · exact r10 4 (by decide)
    · rcases h with rfl | rfl | rfl | rfl | rfl
      · exact r11 0 (by decide)
      · exact r11 1 (by decide)
      · exact r11 2 (by decide)
      · exact r11 3 (by decide)
      · exact r11 4 (by decide)
  · have e : tk_out (tk_am a sz) 4 22 = fun i => if i < 4 then some (sz + 87 + 1 + i) else none := by
      funext i
      unfold tk_out
      by_cases hi : i < 4
      · rw [if_pos hi, if_pos hi]
        rcases (show i = 0 ∨ i = 1 ∨ i = 2 ∨ i = 3 by omega) with rfl | rfl | rfl | rfl <;> rfl
      · rw [if_neg hi, if_neg hi]
    rw [e]
    exact h6
  · have e : tk_out (tk_am a sz) 5 26 = fun i => if i < 5 then some (sz + 94 + 1 + i) else none := by
      funext i
      unfold tk_out
      by_cases hi : i < 5
      · rw [if_pos hi, if_pos hi]
        rcases (show i = 0 ∨ i = 1 ∨ i = 2 ∨ i = 3 ∨ i = 4 by omega) with rfl | rfl | rfl | rfl | rfl <;> rfl
      · rw [if_neg hi, if_neg hi]
    rw [e]
    exact h10
  · have e : tk_out (tk_am a sz) 5 31 = fun i => if i < 5 then some (sz + 100 + 1 + i) else none := by
      funext i
      unfold tk_out
      by_cases hi : i < 5
      · rw [if_pos hi, if_pos hi]
        rcases (show i = 0 ∨ i = 1 ∨ i = 2 ∨ i = 3 ∨ i = 4 by omega) with rfl | rfl | rfl | rfl | rfl <;> rfl
      · rw [if_neg hi, if_neg hi]
    rw [e]
    exact h11
  · have g1 := gk_adB sz hj
    by_cases h1 : i = 0
    · subst h1
      have e : a = gk_ad sz j := e
      omega
    · have := tk_amB (a := a) (q := sz) hi h1
      omega
theorem ac_bool : Cond.arrayClass .boolean ∈ gk_BG := by decide +kernel
abbrev rmX9_init : Room := { frames := 5, cells := 117, slots := 2170, locals := 106 }
set_option maxHeartbeats 4000000 in
set_option maxRecDepth 100000 in
theorem c_X9_init (l : Launch) (D : va_G) (cI cZ cG cL : ClassId) {a b0 sz : Nat} {d0 : Int32} : Met l yX9_init wsX9_init rmX9_init (gk_Pi D cI cZ cG cL [.ref a, .ref b0, .int d0] a (.inr (9, [.null, .null, .int 0, .int 0, .int 0, .int 0, .null, .null, .null, .int 0, .null, .null, .int 0, .null, .null, .null, .null, .int 0, .null, .int 0, .null, .null])) sz) (gk_Qc (fun H => nk_W D cI cZ cL (gk_ad sz) (tk_am a sz) b0 (gk_0, tk_0 d0) H ∧ nk_O D cG (gk_ad sz) (tk_am a sz) (tk_am a sz 18) (fun _ => none) H ∧ nk_O D cG (gk_ad sz) (tk_am a sz) (tk_am a sz 20) (fun _ => none) H) a sz 117) 117 2170 (gk_cA a sz) := by
  refine Met.ofW (cc := cX9_init) (maxL := 4) (ret := none) (by decide) rfl ?_
  intro p e s m args below meth c s₁ B hml0 hv0
  obtain ⟨rfl, hsz, ho, hK⟩ := hv0
  subst hsz
  have C0 : gk_F p s m ([.ref a, .ref b0, .int d0] : List Value).toArray meth c cX9_init 4 none RX9 := ⟨B.exec, B.bytes, hml0, findClass_of_methodNamed B.named, fun w hw => atoms_spec (ws := wsX9_init) B.pre w (List.mem_cons_of_mem _ hw), B.returns, B.notSynchronized⟩
  obtain ⟨hx, hb, hml, hown, hts, hr, hlocks⟩ := id C0
  have hin : meth.name = "<init>" := (name_of_methodNamed B.named B.method).1
  have ha0 : a < s.heap.size := ho.lt
  have hS : va_S (gk_cA a s.heap.size) s.heap s.heap [] := va_S.rf
  have hl := lv_entry ([.ref a, .ref b0, .int d0]) (n := 4) (Nat.le_of_ble_eq_true rfl)
  rw [lg_entry_eq]
  generalize (lg_sl ([.ref a, .ref b0, .int d0]) ++ List.replicate (4 - (lg_sl ([.ref a, .ref b0, .int d0])).length) Slot.unset).toArray = ls at hl ⊢
  have hl : lv_has ls 4 [(0, .ref a), (1, .ref b0), (2, .int d0)] := hl
  show W p l e rmX9_init s m _ below meth c s.heap [] 0 0 _ _
  refine lv_aload_n hx hb dX9_init_0 rfl (lv_at hl 0 rfl) ?_
  refine W.objInit hx hb hown (hts _ oi_X9) (hts _ gk_oi1) (hts _ gk_oi2) rfl (by rw [hml]; exact hl.1) rfl dX9_init_1 (Nat.le_of_ble_eq_true rfl) (Nat.le_of_ble_eq_true rfl) ?_
  refine W.eq (g2 := F0 m 4 ls []) rfl ?_
  have loop : ∀ (d j : Nat), j + d = 6 → ∀ (H : Heap) (locs : List Loc) (fw : Nat → Int32), tk_ct D cI cZ cG cL a b0 s.heap.size d0 H → va_at D vwCl (s.heap.size + 108, .inl (cI, (6, .inl fw))) H → H.size = s.heap.size + 117 → va_S (gk_cA a s.heap.size) s.heap H locs → ∀ (ls : Array Slot), lv_has ls 4 [(3, .int (nI j)), (0, .ref a), (1, .ref b0), (2, .int d0)] →
      W p l e rmX9_init s m (([.ref a, .ref b0, .int d0] : List Value).toArray) below meth c H locs 117 2170 (MQ below (gk_Qc (fun H => nk_W D cI cZ cL (gk_ad s.heap.size) (tk_am a s.heap.size) b0 (gk_0, tk_0 d0) H ∧ nk_O D cG (gk_ad s.heap.size) (tk_am a s.heap.size) (tk_am a s.heap.size 18) (fun _ => none) H ∧ nk_O D cG (gk_ad s.heap.size) (tk_am a s.heap.size) (tk_am a s.heap.size 20) (fun _ => none) H) a s.heap.size 117) (([.ref a, .ref b0, .int d0] : List Value).toArray) s 117 2170 (gk_cA a s.heap.size)) (F0 m 144 ls []) := by
    intro d
    induction d with
    | zero =>
      intro j hj H locs fw hct hw hz hS ls hl
      have hj : j = 6 := hj
      subst hj
      refine lv_iload_n hx hb dX9_init_144 rfl (lv_at hl 0 rfl) ?_
      refine lv_bipush (v := 6) hx hb dX9_init_145 (by decide) ?_
      refine lv_icmp_ge (tgt := 163) hx hb dX9_init_147 (by decide) (fun c7 => ?_) (fun c7 => ?_)
      · exact W.vret hx hb hr (fun t ht _ => ⟨⟨(), rfl, trivial, by rw [ht]; exact hz, by rw [ht]; exact tk_ctW ha0 hct⟩, hS.F ht⟩) hS.2.2 dX9_init_163 (hlocks := hlocks)
      · exact absurd (by decide) c7
    | succ d ih =>
      intro j hj H locs fw hct hw hz hS ls hl
      have hj6 : j < 6 := by omega
      refine lv_iload_n hx hb dX9_init_144 rfl (lv_at hl 0 rfl) ?_
      refine lv_bipush (v := 6) hx hb dX9_init_145 (by decide) ?_
      refine lv_icmp_ge (tgt := 163) hx hb dX9_init_147 (by decide) (fun c7 => ?_) (fun c7 => ?_)
      · exact absurd c7 (nI_ge (a := j) (b := 6) hj6 (by decide))
      · refine lv_aload_n hx hb dX9_init_150 rfl (lv_at hl 1 rfl) ?_
        refine gk_get hx hb hts iwX9 hown hK.1 hct.1 rfl 15 (by decide) (hts _ fl_X9_44) (fun _ h9 => h9) rfl dX9_init_151 ?_
        refine lv_iload_n hx hb dX9_init_154 rfl (lv_at hl 0 rfl) ?_
        refine lv_iconst (v := (-1)) hx hb dX9_init_155 (by decide) ?_
        refine gk_iast hx hb hK.1 hS (Or.inr (by omega)) 0 hw rfl (vp_in_nI hj6 (by decide)) dX9_init_156 (fun H locs h1 z1 oq hS => ?_)
        have hct : tk_ct D cI cZ cG cL a b0 s.heap.size d0 H := by
          obtain ⟨ho, hG, h6, r6, h7, h8, h10, r10, h11, r11, h13, h14, h16, h18, h20, h21, r21⟩ := hct
          exact ⟨ho.kept (oq _ (by omega)), hG.kept (fun k hk9 => oq _ (by have := gk_adB s.heap.size hk9; omega)), h6.kept (oq _ (by omega)), fun i hi => (r6 i hi).kept (oq _ (by omega)), h7.kept (oq _ (by omega)), h8.kept (oq _ (by omega)), h10.kept (oq _ (by omega)), fun i hi => (r10 i hi).kept (oq _ (by omega)), h11.kept (oq _ (by omega)), fun i hi => (r11 i hi).kept (oq _ (by omega)), h13.kept (oq _ (by omega)), h14.kept (oq _ (by omega)), h16.kept (oq _ (by omega)), h18.kept (oq _ (by omega)), h20.kept (oq _ (by omega)), h21.kept (oq _ (by omega)), fun i hi => (r21 i hi).kept (oq _ (by omega))⟩
        refine lv_iinc (v := nI (j + 1)) (lv' := [(3, .int (nI (j + 1))), (0, .ref a), (1, .ref b0), (2, .int d0)]) hx hb dX9_init_157 hl (k := 0) rfl (nI_1 j) (by decide) rfl (fun ls hl => ?_)
        refine lv_goto (tgt := 144) hx hb dX9_init_160 (by decide) ?_
        exact ih (j + 1) (by omega) _ _ _ hct h1 (by omega) hS _ hl
  refine lv_aload_n hx hb dX9_init_4 rfl (lv_at hl 0 rfl) ?_
  refine gk_new (fs := [.null, .null, .null, .null]) hx hb hts iwX8 tyX8 tyX8_ok hown (hts _ cl_X9_7) (hts _ it_X8) (hts _ in_X8) hK.1 hS (ci := 8) rfl df_X8 ⟨Nat.le_of_ble_eq_true rfl, Nat.le_of_ble_eq_true rfl⟩ dX9_init_5 (fun q H hn q1 z1 hk hS => ?_)
  obtain rfl : q = s.heap.size := by omega
  have ho := ho.kept (hk _ ho.lt)
  refine lv_dup hx hb dX9_init_8 rfl ?_
  refine gk_ctor ⟨hx, hb, hml, hown, hts⟩ (c_X8_init l D cI cZ cG cL) (cwI 0 hts (gk_gI co_X8_init) rfl rfl rfl (hts _ in_X8) (hts _ ml_X9_9) (hts _ im_X8_init) rfl (by decide +kernel) ⟨Nat.le_of_ble_eq_true rfl, Nat.le_of_ble_eq_true rfl⟩) hn hK hS (Or.inr (Nat.le_refl _)) (fun q h => Or.inr h) rfl hl.1 (As := []) (rest := [.ref s.heap.size, .ref a]) rfl (lv_room (Nat.le_of_ble_eq_true rfl)) dX9_init_9 ⟨Nat.le_of_ble_eq_true rfl, Nat.le_of_ble_eq_true rfl⟩ (fun H locs z2 hP hk hS => ?_)
  rw [z1] at hP z2
  have hG := gk_iW hP
  have ho := ho.kept (hk _ (by omega) (by omega))
  have hz : H.size = s.heap.size + 87 := by omega
  refine gk_putF (ty := .object "PolicyGate") (v := .ref s.heap.size) hx hb hts iwX9 tyX9 tyX9_ok nmX9 hown hK.1 hS (Or.inl rfl) ho rfl 0 (by decide) (hts _ fl_X9_10) (fun _ h9 => h9) rfl hin rfl (by decide +kernel) rfl rfl (Nat.le_of_ble_eq_true rfl) dX9_init_12 (fun H locs ho z1 oq hS => ?_)
  have ho : va_at D vwCl (a, .inr (9, [.ref s.heap.size, .null, .int 0, .int 0, .int 0, .int 0, .null, .null, .null, .int 0, .null, .null, .int 0, .null, .null, .null, .null, .int 0, .null, .int 0, .null, .null])) H := ho
  have hG := hG.kept (fun k hk9 => oq _ (by have := gk_adB s.heap.size hk9; omega))
  have hz : H.size = s.heap.size + 87 := by omega
  refine lv_aload_n hx hb dX9_init_15 rfl (lv_at hl 0 rfl) ?_
  refine lv_iconst (v := 4) hx hb dX9_init_16 (by decide) ?_
  refine lv_iconst (v := 5) hx hb dX9_init_17 (by decide) ?_
  refine gk_mna (D := D) (ty := .boolean) (cA := cL) (cy := cZ) (N' := 4) (K' := 5) hx hb hown (hts _ cl_X9_16) hK.2.2.2 (hts _ ac_bool) (hK.1.2 3 (cL, .array .boolean) rfl).2 (hK.1.2 1 (cZ, .boolean) rfl).2 rfl hS (by decide) (by decide) (by decide) (by decide) (by decide) (by decide) (by decide) (by decide) ⟨Nat.le_of_ble_eq_true rfl, Nat.le_of_ble_eq_true rfl⟩ dX9_init_18 (fun q H h6 r6 q1 z1 hk hS => ?_)
  obtain rfl : q = s.heap.size + 87 := by omega
  have ho := ho.kept (hk _ ho.lt)
  have hG := hG.kept (fun k hk9 => hk _ (hG.lt hk9))
  have hz : H.size = s.heap.size + 92 := by omega
  refine gk_putF (ty := .array (.array .boolean)) (v := .ref (s.heap.size + 87)) hx hb hts iwX9 tyX9 tyX9_ok nmX9 hown hK.1 hS (Or.inl rfl) ho rfl 6 (by decide) (hts _ fl_X9_18) (fun _ h9 => h9) rfl hin rfl (by decide +kernel) rfl rfl (Nat.le_of_ble_eq_true rfl) dX9_init_22 (fun H locs ho z1 oq hS => ?_)
  have ho : va_at D vwCl (a, .inr (9, [.ref s.heap.size, .null, .int 0, .int 0, .int 0, .int 0, .ref (s.heap.size + 87), .null, .null, .int 0, .null, .null, .int 0, .null, .null, .null, .null, .int 0, .null, .int 0, .null, .null])) H := ho
  have hG := hG.kept (fun k hk9 => oq _ (by have := gk_adB s.heap.size hk9; omega))
  have h6 := h6.kept (oq _ (by omega))
  have r6 := fun i hi => (r6 i hi).kept (oq _ (by omega))
  have hz : H.size = s.heap.size + 92 := by omega
  refine lv_aload_n hx hb dX9_init_25 rfl (lv_at hl 0 rfl) ?_
  refine lv_iconst (v := 4) hx hb dX9_init_26 (by decide) ?_
  refine gk_newi (N' := 4) hx hb (hts _ ac_int) hK hS (by decide) (by decide) (by decide) ⟨Nat.le_of_ble_eq_true rfl, Nat.le_of_ble_eq_true rfl⟩ dX9_init_27 (fun q H h7 q1 z1 hk hS => ?_)
  obtain rfl : q = s.heap.size + 92 := by omega
  have ho := ho.kept (hk _ ho.lt)
  have hG := hG.kept (fun k hk9 => hk _ (hG.lt hk9))
  have h6 := h6.kept (hk _ h6.lt)
  have r6 := fun i hi => (r6 i hi).kept (hk _ (r6 i hi).lt)
  have hz : H.size = s.heap.size + 93 := by omega
  refine gk_putF (ty := .array .int) (v := .ref (s.heap.size + 92)) hx hb hts iwX9 tyX9 tyX9_ok nmX9 hown hK.1 hS (Or.inl rfl) ho rfl 7 (by decide) (hts _ fl_X9_21) (fun _ h9 => h9) rfl hin rfl (by decide +kernel) rfl rfl (Nat.le_of_ble_eq_true rfl) dX9_init_29 (fun H locs ho z1 oq hS => ?_)
  have ho : va_at D vwCl (a, .inr (9, [.ref s.heap.size, .null, .int 0, .int 0, .int 0, .int 0, .ref (s.heap.size + 87), .ref (s.heap.size + 92), .null, .int 0, .null, .null, .int 0, .null, .null, .null, .null, .int 0, .null, .int 0, .null, .null])) H := ho
  have hG := hG.kept (fun k hk9 => oq _ (by have := gk_adB s.heap.size hk9; omega))
  have h6 := h6.kept (oq _ (by omega))
  have r6 := fun i hi => (r6 i hi).kept (oq _ (by omega))
  have h7 := h7.kept (oq _ (by omega))
  have hz : H.size = s.heap.size + 93 := by omega
  refine lv_aload_n hx hb dX9_init_32 rfl (lv_at hl 0 rfl) ?_
  refine lv_iconst (v := 4) hx hb dX9_init_33 (by decide) ?_
  refine gk_newi (N' := 4) hx hb (hts _ ac_int) hK hS (by decide) (by decide) (by decide) ⟨Nat.le_of_ble_eq_true rfl, Nat.le_of_ble_eq_true rfl⟩ dX9_init_34 (fun q H h8 q1 z1 hk hS => ?_)
  obtain rfl : q = s.heap.size + 93 := by omega
  have ho := ho.kept (hk _ ho.lt)
  have hG := hG.kept (fun k hk9 => hk _ (hG.lt hk9))
  have h6 := h6.kept (hk _ h6.lt)
  have r6 := fun i hi => (r6 i hi).kept (hk _ (r6 i hi).lt)
  have h7 := h7.kept (hk _ h7.lt)
  have hz : H.size = s.heap.size + 94 := by omega
  refine gk_putF (ty := .array .int) (v := .ref (s.heap.size + 93)) hx hb hts iwX9 tyX9 tyX9_ok nmX9 hown hK.1 hS (Or.inl rfl) ho rfl 8 (by decide) (hts _ fl_X9_25) (fun _ h9 => h9) rfl hin rfl (by decide +kernel) rfl rfl (Nat.le_of_ble_eq_true rfl) dX9_init_36 (fun H locs ho z1 oq hS => ?_)
  have ho : va_at D vwCl (a, .inr (9, [.ref s.heap.size, .null, .int 0, .int 0, .int 0, .int 0, .ref (s.heap.size + 87), .ref (s.heap.size + 92), .ref (s.heap.size + 93), .int 0, .null, .null, .int 0, .null, .null, .null, .null, .int 0, .null, .int 0, .null, .null])) H := ho
  have hG := hG.kept (fun k hk9 => oq _ (by have := gk_adB s.heap.size hk9; omega))
  have h6 := h6.kept (oq _ (by omega))
  have r6 := fun i hi => (r6 i hi).kept (oq _ (by omega))
  have h7 := h7.kept (oq _ (by omega))
  have h8 := h8.kept (oq _ (by omega))
  have hz : H.size = s.heap.size + 94 := by omega
  refine lv_aload_n hx hb dX9_init_39 rfl (lv_at hl 0 rfl) ?_
  refine lv_iconst (v := 5) hx hb dX9_init_40 (by decide) ?_
  refine lv_iconst (v := 5) hx hb dX9_init_41 (by decide) ?_
  refine gk_mna (D := D) (ty := .boolean) (cA := cL) (cy := cZ) (N' := 5) (K' := 5) hx hb hown (hts _ cl_X9_16) hK.2.2.2 (hts _ ac_bool) (hK.1.2 3 (cL, .array .boolean) rfl).2 (hK.1.2 1 (cZ, .boolean) rfl).2 rfl hS (by decide) (by decide) (by decide) (by decide) (by decide) (by decide) (by decide) (by decide) ⟨Nat.le_of_ble_eq_true rfl, Nat.le_of_ble_eq_true rfl⟩ dX9_init_42 (fun q H h10 r10 q1 z1 hk hS => ?_)
  obtain rfl : q = s.heap.size + 94 := by omega
  have ho := ho.kept (hk _ ho.lt)
  have hG := hG.kept (fun k hk9 => hk _ (hG.lt hk9))
  have h6 := h6.kept (hk _ h6.lt)
  have r6 := fun i hi => (r6 i hi).kept (hk _ (r6 i hi).lt)
  have h7 := h7.kept (hk _ h7.lt)
  have h8 := h8.kept (hk _ h8.lt)
  have hz : H.size = s.heap.size + 100 := by omega
  refine gk_putF (ty := .array (.array .boolean)) (v := .ref (s.heap.size + 94)) hx hb hts iwX9 tyX9 tyX9_ok nmX9 hown hK.1 hS (Or.inl rfl) ho rfl 10 (by decide) (hts _ fl_X9_28) (fun _ h9 => h9) rfl hin rfl (by decide +kernel) rfl rfl (Nat.le_of_ble_eq_true rfl) dX9_init_46 (fun H locs ho z1 oq hS => ?_)
  have ho : va_at D vwCl (a, .inr (9, [.ref s.heap.size, .null, .int 0, .int 0, .int 0, .int 0, .ref (s.heap.size + 87), .ref (s.heap.size + 92), .ref (s.heap.size + 93), .int 0, .ref (s.heap.size + 94), .null, .int 0, .null, .null, .null, .null, .int 0, .null, .int 0, .null, .null])) H := ho
  have hG := hG.kept (fun k hk9 => oq _ (by have := gk_adB s.heap.size hk9; omega))
  have h6 := h6.kept (oq _ (by omega))
  have r6 := fun i hi => (r6 i hi).kept (oq _ (by omega))
  have h7 := h7.kept (oq _ (by omega))
  have h8 := h8.kept (oq _ (by omega))
  have h10 := h10.kept (oq _ (by omega))
  have r10 := fun i hi => (r10 i hi).kept (oq _ (by omega))
  have hz : H.size = s.heap.size + 100 := by omega
  refine lv_aload_n hx hb dX9_init_49 rfl (lv_at hl 0 rfl) ?_
  refine lv_iconst (v := 5) hx hb dX9_init_50 (by decide) ?_
  refine lv_iconst (v := 5) hx hb dX9_init_51 (by decide) ?_
  refine gk_mna (D := D) (ty := .boolean) (cA := cL) (cy := cZ) (N' := 5) (K' := 5) hx hb hown (hts _ cl_X9_16) hK.2.2.2 (hts _ ac_bool) (hK.1.2 3 (cL, .array .boolean) rfl).2 (hK.1.2 1 (cZ, .boolean) rfl).2 rfl hS (by decide) (by decide) (by decide) (by decide) (by decide) (by decide) (by decide) (by decide) ⟨Nat.le_of_ble_eq_true rfl, Nat.le_of_ble_eq_true rfl⟩ dX9_init_52 (fun q H h11 r11 q1 z1 hk hS => ?_)
  obtain rfl : q = s.heap.size + 100 := by omega
  have ho := ho.kept (hk _ ho.lt)
  have hG := hG.kept (fun k hk9 => hk _ (hG.lt hk9))
  have h6 := h6.kept (hk _ h6.lt)
  have r6 := fun i hi => (r6 i hi).kept (hk _ (r6 i hi).lt)
  have h7 := h7.kept (hk _ h7.lt)
  have h8 := h8.kept (hk _ h8.lt)
  have h10 := h10.kept (hk _ h10.lt)
  have r10 := fun i hi => (r10 i hi).kept (hk _ (r10 i hi).lt)
  have hz : H.size = s.heap.size + 106 := by omega
  refine gk_putF (ty := .array (.array .boolean)) (v := .ref (s.heap.size + 100)) hx hb hts iwX9 tyX9 tyX9_ok nmX9 hown hK.1 hS (Or.inl rfl) ho rfl 11 (by decide) (hts _ fl_X9_31) (fun _ h9 => h9) rfl hin rfl (by decide +kernel) rfl rfl (Nat.le_of_ble_eq_true rfl) dX9_init_56 (fun H locs ho z1 oq hS => ?_)
  have ho : va_at D vwCl (a, .inr (9, [.ref s.heap.size, .null, .int 0, .int 0, .int 0, .int 0, .ref (s.heap.size + 87), .ref (s.heap.size + 92), .ref (s.heap.size + 93), .int 0, .ref (s.heap.size + 94), .ref (s.heap.size + 100), .int 0, .null, .null, .null, .null, .int 0, .null, .int 0, .null, .null])) H := ho
  have hG := hG.kept (fun k hk9 => oq _ (by have := gk_adB s.heap.size hk9; omega))
  have h6 := h6.kept (oq _ (by omega))
  have r6 := fun i hi => (r6 i hi).kept (oq _ (by omega))
  have h7 := h7.kept (oq _ (by omega))
  have h8 := h8.kept (oq _ (by omega))
  have h10 := h10.kept (oq _ (by omega))
  have r10 := fun i hi => (r10 i hi).kept (oq _ (by omega))
  have h11 := h11.kept (oq _ (by omega))
  have r11 := fun i hi => (r11 i hi).kept (oq _ (by omega))
  have hz : H.size = s.heap.size + 106 := by omega
  refine lv_aload_n hx hb dX9_init_59 rfl (lv_at hl 0 rfl) ?_
  refine lv_iconst (v := 1) hx hb dX9_init_60 (by decide) ?_
  refine gk_putf (ty := .int) (v := .int 1) hx hb hts iwX9 tyX9 tyX9_ok nmX9 hown hK.1 hS (Or.inl rfl) ho rfl 12 (by decide) (hts _ fl_X9_34) (fun _ h9 => h9) rfl (by decide +kernel) rfl rfl (Nat.le_of_ble_eq_true rfl) dX9_init_61 (fun H locs ho z1 oq hS => ?_)
  have ho : va_at D vwCl (a, .inr (9, [.ref s.heap.size, .null, .int 0, .int 0, .int 0, .int 0, .ref (s.heap.size + 87), .ref (s.heap.size + 92), .ref (s.heap.size + 93), .int 0, .ref (s.heap.size + 94), .ref (s.heap.size + 100), .int 1, .null, .null, .null, .null, .int 0, .null, .int 0, .null, .null])) H := ho
  have hG := hG.kept (fun k hk9 => oq _ (by have := gk_adB s.heap.size hk9; omega))
  have h6 := h6.kept (oq _ (by omega))
  have r6 := fun i hi => (r6 i hi).kept (oq _ (by omega))
  have h7 := h7.kept (oq _ (by omega))
  have h8 := h8.kept (oq _ (by omega))
  have h10 := h10.kept (oq _ (by omega))
  have r10 := fun i hi => (r10 i hi).kept (oq _ (by omega))
  have h11 := h11.kept (oq _ (by omega))
  have r11 := fun i hi => (r11 i hi).kept (oq _ (by omega))
  have hz : H.size = s.heap.size + 106 := by omega
  refine lv_aload_n hx hb dX9_init_64 rfl (lv_at hl 0 rfl) ?_
  refine lv_bipush (v := 6) hx hb dX9_init_65 (by decide) ?_
  refine gk_newi (N' := 6) hx hb (hts _ ac_int) hK hS (by decide) (by decide) (by decide) ⟨Nat.le_of_ble_eq_true rfl, Nat.le_of_ble_eq_true rfl⟩ dX9_init_67 (fun q H h13 q1 z1 hk hS => ?_)
  obtain rfl : q = s.heap.size + 106 := by omega
  have ho := ho.kept (hk _ ho.lt)
  have hG := hG.kept (fun k hk9 => hk _ (hG.lt hk9))
  have h6 := h6.kept (hk _ h6.lt)
  have r6 := fun i hi => (r6 i hi).kept (hk _ (r6 i hi).lt)
  have h7 := h7.kept (hk _ h7.lt)
  have h8 := h8.kept (hk _ h8.lt)
  have h10 := h10.kept (hk _ h10.lt)
  have r10 := fun i hi => (r10 i hi).kept (hk _ (r10 i hi).lt)
  have h11 := h11.kept (hk _ h11.lt)
  have r11 := fun i hi => (r11 i hi).kept (hk _ (r11 i hi).lt)
  have hz : H.size = s.heap.size + 107 := by omega
  refine gk_putF (ty := .array .int) (v := .ref (s.heap.size + 106)) hx hb hts iwX9 tyX9 tyX9_ok nmX9 hown hK.1 hS (Or.inl rfl) ho rfl 13 (by decide) (hts _ fl_X9_38) (fun _ h9 => h9) rfl hin rfl (by decide +kernel) rfl rfl (Nat.le_of_ble_eq_true rfl) dX9_init_69 (fun H locs ho z1 oq hS => ?_)
  have ho : va_at D vwCl (a, .inr (9, [.ref s.heap.size, .null, .int 0, .int 0, .int 0, .int 0, .ref (s.heap.size + 87), .ref (s.heap.size + 92), .ref (s.heap.size + 93), .int 0, .ref (s.heap.size + 94), .ref (s.heap.size + 100), .int 1, .ref (s.heap.size + 106), .null, .null, .null, .int 0, .null, .int 0, .null, .null])) H := ho
  have hG := hG.kept (fun k hk9 => oq _ (by have := gk_adB s.heap.size hk9; omega))
  have h6 := h6.kept (oq _ (by omega))
  have r6 := fun i hi => (r6 i hi).kept (oq _ (by omega))
  have h7 := h7.kept (oq _ (by omega))
  have h8 := h8.kept (oq _ (by omega))
  have h10 := h10.kept (oq _ (by omega))
  have r10 := fun i hi => (r10 i hi).kept (oq _ (by omega))
  have h11 := h11.kept (oq _ (by omega))
  have r11 := fun i hi => (r11 i hi).kept (oq _ (by omega))
  have h13 := h13.kept (oq _ (by omega))
  have hz : H.size = s.heap.size + 107 := by omega
  refine lv_aload_n hx hb dX9_init_72 rfl (lv_at hl 0 rfl) ?_
  refine lv_bipush (v := 6) hx hb dX9_init_73 (by decide) ?_
  refine gk_newi (N' := 6) hx hb (hts _ ac_int) hK hS (by decide) (by decide) (by decide) ⟨Nat.le_of_ble_eq_true rfl, Nat.le_of_ble_eq_true rfl⟩ dX9_init_75 (fun q H h14 q1 z1 hk hS => ?_)
  obtain rfl : q = s.heap.size + 107 := by omega
  have ho := ho.kept (hk _ ho.lt)
  have hG := hG.kept (fun k hk9 => hk _ (hG.lt hk9))
  have h6 := h6.kept (hk _ h6.lt)
  have r6 := fun i hi => (r6 i hi).kept (hk _ (r6 i hi).lt)
  have h7 := h7.kept (hk _ h7.lt)
  have h8 := h8.kept (hk _ h8.lt)
  have h10 := h10.kept (hk _ h10.lt)
  have r10 := fun i hi => (r10 i hi).kept (hk _ (r10 i hi).lt)
  have h11 := h11.kept (hk _ h11.lt)
  have r11 := fun i hi => (r11 i hi).kept (hk _ (r11 i hi).lt)
  have h13 := h13.kept (hk _ h13.lt)
  have hz : H.size = s.heap.size + 108 := by omega
  refine gk_putF (ty := .array .int) (v := .ref (s.heap.size + 107)) hx hb hts iwX9 tyX9 tyX9_ok nmX9 hown hK.1 hS (Or.inl rfl) ho rfl 14 (by decide) (hts _ fl_X9_41) (fun _ h9 => h9) rfl hin rfl (by decide +kernel) rfl rfl (Nat.le_of_ble_eq_true rfl) dX9_init_77 (fun H locs ho z1 oq hS => ?_)
  have ho : va_at D vwCl (a, .inr (9, [.ref s.heap.size, .null, .int 0, .int 0, .int 0, .int 0, .ref (s.heap.size + 87), .ref (s.heap.size + 92), .ref (s.heap.size + 93), .int 0, .ref (s.heap.size + 94), .ref (s.heap.size + 100), .int 1, .ref (s.heap.size + 106), .ref (s.heap.size + 107), .null, .null, .int 0, .null, .int 0, .null, .null])) H := ho
  have hG := hG.kept (fun k hk9 => oq _ (by have := gk_adB s.heap.size hk9; omega))
  have h6 := h6.kept (oq _ (by omega))
  have r6 := fun i hi => (r6 i hi).kept (oq _ (by omega))
  have h7 := h7.kept (oq _ (by omega))
  have h8 := h8.kept (oq _ (by omega))
  have h10 := h10.kept (oq _ (by omega))
  have r10 := fun i hi => (r10 i hi).kept (oq _ (by omega))
  have h11 := h11.kept (oq _ (by omega))
  have r11 := fun i hi => (r11 i hi).kept (oq _ (by omega))
  have h13 := h13.kept (oq _ (by omega))
  have h14 := h14.kept (oq _ (by omega))
  have hz : H.size = s.heap.size + 108 := by omega
  refine lv_aload_n hx hb dX9_init_80 rfl (lv_at hl 0 rfl) ?_
  refine lv_bipush (v := 6) hx hb dX9_init_81 (by decide) ?_
  refine gk_newi (N' := 6) hx hb (hts _ ac_int) hK hS (by decide) (by decide) (by decide) ⟨Nat.le_of_ble_eq_true rfl, Nat.le_of_ble_eq_true rfl⟩ dX9_init_83 (fun q H h15 q1 z1 hk hS => ?_)
  obtain rfl : q = s.heap.size + 108 := by omega
  have ho := ho.kept (hk _ ho.lt)
  have hG := hG.kept (fun k hk9 => hk _ (hG.lt hk9))
  have h6 := h6.kept (hk _ h6.lt)
  have r6 := fun i hi => (r6 i hi).kept (hk _ (r6 i hi).lt)
  have h7 := h7.kept (hk _ h7.lt)
  have h8 := h8.kept (hk _ h8.lt)
  have h10 := h10.kept (hk _ h10.lt)
  have r10 := fun i hi => (r10 i hi).kept (hk _ (r10 i hi).lt)
  have h11 := h11.kept (hk _ h11.lt)
  have r11 := fun i hi => (r11 i hi).kept (hk _ (r11 i hi).lt)
  have h13 := h13.kept (hk _ h13.lt)
  have h14 := h14.kept (hk _ h14.lt)
  have hz : H.size = s.heap.size + 109 := by omega
  refine gk_putF (ty := .array .int) (v := .ref (s.heap.size + 108)) hx hb hts iwX9 tyX9 tyX9_ok nmX9 hown hK.1 hS (Or.inl rfl) ho rfl 15 (by decide) (hts _ fl_X9_44) (fun _ h9 => h9) rfl hin rfl (by decide +kernel) rfl rfl (Nat.le_of_ble_eq_true rfl) dX9_init_85 (fun H locs ho z1 oq hS => ?_)
  have ho : va_at D vwCl (a, .inr (9, [.ref s.heap.size, .null, .int 0, .int 0, .int 0, .int 0, .ref (s.heap.size + 87), .ref (s.heap.size + 92), .ref (s.heap.size + 93), .int 0, .ref (s.heap.size + 94), .ref (s.heap.size + 100), .int 1, .ref (s.heap.size + 106), .ref (s.heap.size + 107), .ref (s.heap.size + 108), .null, .int 0, .null, .int 0, .null, .null])) H := ho
  have hG := hG.kept (fun k hk9 => oq _ (by have := gk_adB s.heap.size hk9; omega))
  have h6 := h6.kept (oq _ (by omega))
  have r6 := fun i hi => (r6 i hi).kept (oq _ (by omega))
  have h7 := h7.kept (oq _ (by omega))
  have h8 := h8.kept (oq _ (by omega))
  have h10 := h10.kept (oq _ (by omega))
  have r10 := fun i hi => (r10 i hi).kept (oq _ (by omega))
  have h11 := h11.kept (oq _ (by omega))
  have r11 := fun i hi => (r11 i hi).kept (oq _ (by omega))
  have h13 := h13.kept (oq _ (by omega))
  have h14 := h14.kept (oq _ (by omega))
  have h15 := h15.kept (oq _ (by omega))
  have hz : H.size = s.heap.size + 109 := by omega
  refine lv_aload_n hx hb dX9_init_88 rfl (lv_at hl 0 rfl) ?_
  refine lv_bipush (v := 6) hx hb dX9_init_89 (by decide) ?_
  refine gk_newi (N' := 6) hx hb (hts _ ac_int) hK hS (by decide) (by decide) (by decide) ⟨Nat.le_of_ble_eq_true rfl, Nat.le_of_ble_eq_true rfl⟩ dX9_init_91 (fun q H h16 q1 z1 hk hS => ?_)
  obtain rfl : q = s.heap.size + 109 := by omega
  have ho := ho.kept (hk _ ho.lt)
  have hG := hG.kept (fun k hk9 => hk _ (hG.lt hk9))
  have h6 := h6.kept (hk _ h6.lt)
  have r6 := fun i hi => (r6 i hi).kept (hk _ (r6 i hi).lt)
  have h7 := h7.kept (hk _ h7.lt)
  have h8 := h8.kept (hk _ h8.lt)
  have h10 := h10.kept (hk _ h10.lt)
  have r10 := fun i hi => (r10 i hi).kept (hk _ (r10 i hi).lt)
  have h11 := h11.kept (hk _ h11.lt)
  have r11 := fun i hi => (r11 i hi).kept (hk _ (r11 i hi).lt)
  have h13 := h13.kept (hk _ h13.lt)
  have h14 := h14.kept (hk _ h14.lt)
  have h15 := h15.kept (hk _ h15.lt)
  have hz : H.size = s.heap.size + 110 := by omega
  refine gk_putF (ty := .array .int) (v := .ref (s.heap.size + 109)) hx hb hts iwX9 tyX9 tyX9_ok nmX9 hown hK.1 hS (Or.inl rfl) ho rfl 16 (by decide) (hts _ fl_X9_47) (fun _ h9 => h9) rfl hin rfl (by decide +kernel) rfl rfl (Nat.le_of_ble_eq_true rfl) dX9_init_93 (fun H locs ho z1 oq hS => ?_)
  have ho : va_at D vwCl (a, .inr (9, [.ref s.heap.size, .null, .int 0, .int 0, .int 0, .int 0, .ref (s.heap.size + 87), .ref (s.heap.size + 92), .ref (s.heap.size + 93), .int 0, .ref (s.heap.size + 94), .ref (s.heap.size + 100), .int 1, .ref (s.heap.size + 106), .ref (s.heap.size + 107), .ref (s.heap.size + 108), .ref (s.heap.size + 109), .int 0, .null, .int 0, .null, .null])) H := ho
  have hG := hG.kept (fun k hk9 => oq _ (by have := gk_adB s.heap.size hk9; omega))
  have h6 := h6.kept (oq _ (by omega))
  have r6 := fun i hi => (r6 i hi).kept (oq _ (by omega))
  have h7 := h7.kept (oq _ (by omega))
  have h8 := h8.kept (oq _ (by omega))
  have h10 := h10.kept (oq _ (by omega))
  have r10 := fun i hi => (r10 i hi).kept (oq _ (by omega))
  have h11 := h11.kept (oq _ (by omega))
  have r11 := fun i hi => (r11 i hi).kept (oq _ (by omega))
  have h13 := h13.kept (oq _ (by omega))
  have h14 := h14.kept (oq _ (by omega))
  have h15 := h15.kept (oq _ (by omega))
  have h16 := h16.kept (oq _ (by omega))
  have hz : H.size = s.heap.size + 110 := by omega
  refine lv_aload_n hx hb dX9_init_96 rfl (lv_at hl 0 rfl) ?_
  refine lv_bipush (v := 20) hx hb dX9_init_97 (by decide) ?_
  refine gk_newg (N9 := 20) hx hb hown (hts _ cl_X9_50) hK hS (by decide) (by decide) (by decide) ⟨Nat.le_of_ble_eq_true rfl, Nat.le_of_ble_eq_true rfl⟩ dX9_init_99 (fun q H h18 q1 z1 hk hS => ?_)
  obtain rfl : q = s.heap.size + 110 := by omega
  have ho := ho.kept (hk _ ho.lt)
  have hG := hG.kept (fun k hk9 => hk _ (hG.lt hk9))
  have h6 := h6.kept (hk _ h6.lt)
  have r6 := fun i hi => (r6 i hi).kept (hk _ (r6 i hi).lt)
  have h7 := h7.kept (hk _ h7.lt)
  have h8 := h8.kept (hk _ h8.lt)
  have h10 := h10.kept (hk _ h10.lt)
  have r10 := fun i hi => (r10 i hi).kept (hk _ (r10 i hi).lt)
  have h11 := h11.kept (hk _ h11.lt)
  have r11 := fun i hi => (r11 i hi).kept (hk _ (r11 i hi).lt)
  have h13 := h13.kept (hk _ h13.lt)
  have h14 := h14.kept (hk _ h14.lt)
  have h15 := h15.kept (hk _ h15.lt)
  have h16 := h16.kept (hk _ h16.lt)
  have hz : H.size = s.heap.size + 111 := by omega
  refine gk_putf (ty := .array (.array .int)) (v := .ref (s.heap.size + 110)) hx hb hts iwX9 tyX9 tyX9_ok nmX9 hown hK.1 hS (Or.inl rfl) ho rfl 18 (by decide) (hts _ fl_X9_51) (fun _ h9 => h9) rfl (by decide +kernel) rfl rfl (Nat.le_of_ble_eq_true rfl) dX9_init_102 (fun H locs ho z1 oq hS => ?_)
  have ho : va_at D vwCl (a, .inr (9, [.ref s.heap.size, .null, .int 0, .int 0, .int 0, .int 0, .ref (s.heap.size + 87), .ref (s.heap.size + 92), .ref (s.heap.size + 93), .int 0, .ref (s.heap.size + 94), .ref (s.heap.size + 100), .int 1, .ref (s.heap.size + 106), .ref (s.heap.size + 107), .ref (s.heap.size + 108), .ref (s.heap.size + 109), .int 0, .ref (s.heap.size + 110), .int 0, .null, .null])) H := ho
  have hG := hG.kept (fun k hk9 => oq _ (by have := gk_adB s.heap.size hk9; omega))
  have h6 := h6.kept (oq _ (by omega))
  have r6 := fun i hi => (r6 i hi).kept (oq _ (by omega))
  have h7 := h7.kept (oq _ (by omega))
  have h8 := h8.kept (oq _ (by omega))
  have h10 := h10.kept (oq _ (by omega))
  have r10 := fun i hi => (r10 i hi).kept (oq _ (by omega))
  have h11 := h11.kept (oq _ (by omega))
  have r11 := fun i hi => (r11 i hi).kept (oq _ (by omega))
  have h13 := h13.kept (oq _ (by omega))
  have h14 := h14.kept (oq _ (by omega))
  have h15 := h15.kept (oq _ (by omega))
  have h16 := h16.kept (oq _ (by omega))
  have h18 := h18.kept (oq _ (by omega))
  have hz : H.size = s.heap.size + 111 := by omega
  refine lv_aload_n hx hb dX9_init_105 rfl (lv_at hl 0 rfl) ?_
  refine lv_bipush (v := 20) hx hb dX9_init_106 (by decide) ?_
  refine gk_newg (N9 := 20) hx hb hown (hts _ cl_X9_50) hK hS (by decide) (by decide) (by decide) ⟨Nat.le_of_ble_eq_true rfl, Nat.le_of_ble_eq_true rfl⟩ dX9_init_108 (fun q H h20 q1 z1 hk hS => ?_)
  obtain rfl : q = s.heap.size + 111 := by omega
  have ho := ho.kept (hk _ ho.lt)
  have hG := hG.kept (fun k hk9 => hk _ (hG.lt hk9))
  have h6 := h6.kept (hk _ h6.lt)
  have r6 := fun i hi => (r6 i hi).kept (hk _ (r6 i hi).lt)
  have h7 := h7.kept (hk _ h7.lt)
  have h8 := h8.kept (hk _ h8.lt)
  have h10 := h10.kept (hk _ h10.lt)
  have r10 := fun i hi => (r10 i hi).kept (hk _ (r10 i hi).lt)
  have h11 := h11.kept (hk _ h11.lt)
  have r11 := fun i hi => (r11 i hi).kept (hk _ (r11 i hi).lt)
  have h13 := h13.kept (hk _ h13.lt)
  have h14 := h14.kept (hk _ h14.lt)
  have h15 := h15.kept (hk _ h15.lt)
  have h16 := h16.kept (hk _ h16.lt)
  have h18 := h18.kept (hk _ h18.lt)
  have hz : H.size = s.heap.size + 112 := by omega
  refine gk_putF (ty := .array (.array .int)) (v := .ref (s.heap.size + 111)) hx hb hts iwX9 tyX9 tyX9_ok nmX9 hown hK.1 hS (Or.inl rfl) ho rfl 20 (by decide) (hts _ fl_X9_55) (fun _ h9 => h9) rfl hin rfl (by decide +kernel) rfl rfl (Nat.le_of_ble_eq_true rfl) dX9_init_111 (fun H locs ho z1 oq hS => ?_)
  have ho : va_at D vwCl (a, .inr (9, [.ref s.heap.size, .null, .int 0, .int 0, .int 0, .int 0, .ref (s.heap.size + 87), .ref (s.heap.size + 92), .ref (s.heap.size + 93), .int 0, .ref (s.heap.size + 94), .ref (s.heap.size + 100), .int 1, .ref (s.heap.size + 106), .ref (s.heap.size + 107), .ref (s.heap.size + 108), .ref (s.heap.size + 109), .int 0, .ref (s.heap.size + 110), .int 0, .ref (s.heap.size + 111), .null])) H := ho
  have hG := hG.kept (fun k hk9 => oq _ (by have := gk_adB s.heap.size hk9; omega))
  have h6 := h6.kept (oq _ (by omega))
  have r6 := fun i hi => (r6 i hi).kept (oq _ (by omega))
  have h7 := h7.kept (oq _ (by omega))
  have h8 := h8.kept (oq _ (by omega))
  have h10 := h10.kept (oq _ (by omega))
  have r10 := fun i hi => (r10 i hi).kept (oq _ (by omega))
  have h11 := h11.kept (oq _ (by omega))
  have r11 := fun i hi => (r11 i hi).kept (oq _ (by omega))
  have h13 := h13.kept (oq _ (by omega))
  have h14 := h14.kept (oq _ (by omega))
  have h15 := h15.kept (oq _ (by omega))
  have h16 := h16.kept (oq _ (by omega))
  have h18 := h18.kept (oq _ (by omega))
  have h20 := h20.kept (oq _ (by omega))
  have hz : H.size = s.heap.size + 112 := by omega
  refine lv_aload_n hx hb dX9_init_114 rfl (lv_at hl 0 rfl) ?_
  refine lv_iconst (v := 4) hx hb dX9_init_115 (by decide) ?_
  refine lv_bipush (v := 6) hx hb dX9_init_116 (by decide) ?_
  refine gk_mna (D := D) (ty := .int) (cA := cG) (cy := cI) (N' := 4) (K' := 6) hx hb hown (hts _ cl_X9_58) hK.2.2.1 (hts _ ac_int) (hK.1.2 2 (cG, .array .int) rfl).2 (hK.1.2 0 (cI, .int) rfl).2 rfl hS (by decide) (by decide) (by decide) (by decide) (by decide) (by decide) (by decide) (by decide) ⟨Nat.le_of_ble_eq_true rfl, Nat.le_of_ble_eq_true rfl⟩ dX9_init_118 (fun q H h21 r21 q1 z1 hk hS => ?_)
  obtain rfl : q = s.heap.size + 112 := by omega
  have ho := ho.kept (hk _ ho.lt)
  have hG := hG.kept (fun k hk9 => hk _ (hG.lt hk9))
  have h6 := h6.kept (hk _ h6.lt)
  have r6 := fun i hi => (r6 i hi).kept (hk _ (r6 i hi).lt)
  have h7 := h7.kept (hk _ h7.lt)
  have h8 := h8.kept (hk _ h8.lt)
  have h10 := h10.kept (hk _ h10.lt)
  have r10 := fun i hi => (r10 i hi).kept (hk _ (r10 i hi).lt)
  have h11 := h11.kept (hk _ h11.lt)
  have r11 := fun i hi => (r11 i hi).kept (hk _ (r11 i hi).lt)
  have h13 := h13.kept (hk _ h13.lt)
  have h14 := h14.kept (hk _ h14.lt)
  have h15 := h15.kept (hk _ h15.lt)
  have h16 := h16.kept (hk _ h16.lt)
  have h18 := h18.kept (hk _ h18.lt)
  have h20 := h20.kept (hk _ h20.lt)
  have hz : H.size = s.heap.size + 117 := by omega
  refine gk_putF (ty := .array (.array .int)) (v := .ref (s.heap.size + 112)) hx hb hts iwX9 tyX9 tyX9_ok nmX9 hown hK.1 hS (Or.inl rfl) ho rfl 21 (by decide) (hts _ fl_X9_59) (fun _ h9 => h9) rfl hin rfl (by decide +kernel) rfl rfl (Nat.le_of_ble_eq_true rfl) dX9_init_122 (fun H locs ho z1 oq hS => ?_)
  have ho : va_at D vwCl (a, .inr (9, [.ref s.heap.size, .null, .int 0, .int 0, .int 0, .int 0, .ref (s.heap.size + 87), .ref (s.heap.size + 92), .ref (s.heap.size + 93), .int 0, .ref (s.heap.size + 94), .ref (s.heap.size + 100), .int 1, .ref (s.heap.size + 106), .ref (s.heap.size + 107), .ref (s.heap.size + 108), .ref (s.heap.size + 109), .int 0, .ref (s.heap.size + 110), .int 0, .ref (s.heap.size + 111), .ref (s.heap.size + 112)])) H := ho
  have hG := hG.kept (fun k hk9 => oq _ (by have := gk_adB s.heap.size hk9; omega))
  have h6 := h6.kept (oq _ (by omega))
  have r6 := fun i hi => (r6 i hi).kept (oq _ (by omega))
  have h7 := h7.kept (oq _ (by omega))
  have h8 := h8.kept (oq _ (by omega))
  have h10 := h10.kept (oq _ (by omega))
  have r10 := fun i hi => (r10 i hi).kept (oq _ (by omega))
  have h11 := h11.kept (oq _ (by omega))
  have r11 := fun i hi => (r11 i hi).kept (oq _ (by omega))
  have h13 := h13.kept (oq _ (by omega))
  have h14 := h14.kept (oq _ (by omega))
  have h15 := h15.kept (oq _ (by omega))
  have h16 := h16.kept (oq _ (by omega))
  have h18 := h18.kept (oq _ (by omega))
  have h20 := h20.kept (oq _ (by omega))
  have h21 := h21.kept (oq _ (by omega))
  have r21 := fun i hi => (r21 i hi).kept (oq _ (by omega))
  have hz : H.size = s.heap.size + 117 := by omega
  refine lv_aload_n hx hb dX9_init_125 rfl (lv_at hl 0 rfl) ?_
  refine lv_aload_n hx hb dX9_init_126 rfl (lv_at hl 1 rfl) ?_
  refine gk_putF (ty := .array .int) (v := .ref b0) hx hb hts iwX9 tyX9 tyX9_ok nmX9 hown hK.1 hS (Or.inl rfl) ho rfl 1 (by decide) (hts _ fl_X9_62) (fun _ h9 => h9) rfl hin rfl (by decide +kernel) rfl rfl (Nat.le_of_ble_eq_true rfl) dX9_init_127 (fun H locs ho z1 oq hS => ?_)
  have ho : va_at D vwCl (a, .inr (9, [.ref s.heap.size, .ref b0, .int 0, .int 0, .int 0, .int 0, .ref (s.heap.size + 87), .ref (s.heap.size + 92), .ref (s.heap.size + 93), .int 0, .ref (s.heap.size + 94), .ref (s.heap.size + 100), .int 1, .ref (s.heap.size + 106), .ref (s.heap.size + 107), .ref (s.heap.size + 108), .ref (s.heap.size + 109), .int 0, .ref (s.heap.size + 110), .int 0, .ref (s.heap.size + 111), .ref (s.heap.size + 112)])) H := ho
  have hG := hG.kept (fun k hk9 => oq _ (by have := gk_adB s.heap.size hk9; omega))
  have h6 := h6.kept (oq _ (by omega))
  have r6 := fun i hi => (r6 i hi).kept (oq _ (by omega))
  have h7 := h7.kept (oq _ (by omega))
  have h8 := h8.kept (oq _ (by omega))
  have h10 := h10.kept (oq _ (by omega))
  have r10 := fun i hi => (r10 i hi).kept (oq _ (by omega))
  have h11 := h11.kept (oq _ (by omega))
  have r11 := fun i hi => (r11 i hi).kept (oq _ (by omega))
  have h13 := h13.kept (oq _ (by omega))
  have h14 := h14.kept (oq _ (by omega))
  have h15 := h15.kept (oq _ (by omega))
  have h16 := h16.kept (oq _ (by omega))
  have h18 := h18.kept (oq _ (by omega))
  have h20 := h20.kept (oq _ (by omega))
  have h21 := h21.kept (oq _ (by omega))
  have r21 := fun i hi => (r21 i hi).kept (oq _ (by omega))
  have hz : H.size = s.heap.size + 117 := by omega
  refine lv_aload_n hx hb dX9_init_130 rfl (lv_at hl 0 rfl) ?_
  refine lv_iload_n hx hb dX9_init_131 rfl (lv_at hl 2 rfl) ?_
  refine gk_putf (ty := .int) (v := .int d0) hx hb hts iwX9 tyX9 tyX9_ok nmX9 hown hK.1 hS (Or.inl rfl) ho rfl 2 (by decide) (hts _ fl_X9_65) (fun _ h9 => h9) rfl (by decide +kernel) rfl rfl (Nat.le_of_ble_eq_true rfl) dX9_init_132 (fun H locs ho z1 oq hS => ?_)
  have ho : va_at D vwCl (a, .inr (9, [.ref s.heap.size, .ref b0, .int d0, .int 0, .int 0, .int 0, .ref (s.heap.size + 87), .ref (s.heap.size + 92), .ref (s.heap.size + 93), .int 0, .ref (s.heap.size + 94), .ref (s.heap.size + 100), .int 1, .ref (s.heap.size + 106), .ref (s.heap.size + 107), .ref (s.heap.size + 108), .ref (s.heap.size + 109), .int 0, .ref (s.heap.size + 110), .int 0, .ref (s.heap.size + 111), .ref (s.heap.size + 112)])) H := ho
  have hG := hG.kept (fun k hk9 => oq _ (by have := gk_adB s.heap.size hk9; omega))
  have h6 := h6.kept (oq _ (by omega))
  have r6 := fun i hi => (r6 i hi).kept (oq _ (by omega))
  have h7 := h7.kept (oq _ (by omega))
  have h8 := h8.kept (oq _ (by omega))
  have h10 := h10.kept (oq _ (by omega))
  have r10 := fun i hi => (r10 i hi).kept (oq _ (by omega))
  have h11 := h11.kept (oq _ (by omega))
  have r11 := fun i hi => (r11 i hi).kept (oq _ (by omega))
  have h13 := h13.kept (oq _ (by omega))
  have h14 := h14.kept (oq _ (by omega))
  have h15 := h15.kept (oq _ (by omega))
  have h16 := h16.kept (oq _ (by omega))
  have h18 := h18.kept (oq _ (by omega))
  have h20 := h20.kept (oq _ (by omega))
  have h21 := h21.kept (oq _ (by omega))
  have r21 := fun i hi => (r21 i hi).kept (oq _ (by omega))
  have hz : H.size = s.heap.size + 117 := by omega
  refine lv_aload_n hx hb dX9_init_135 rfl (lv_at hl 0 rfl) ?_
  refine gk_get hx hb hts iwX9 hown hK.1 ho rfl 13 (by decide) (hts _ fl_X9_38) (fun _ h9 => h9) rfl dX9_init_136 ?_
  refine lv_iconst (v := 0) hx hb dX9_init_139 (by decide) ?_
  refine lv_iconst (v := (-1)) hx hb dX9_init_140 (by decide) ?_
  refine gk_iast hx hb hK.1 hS (Or.inr (by omega)) 0 h13 rfl (pk_in 0 6 (by decide)) dX9_init_141 (fun H locs h13 z1 oq hS => ?_)
  have ho := ho.kept (oq _ (by omega))
  have hG := hG.kept (fun k hk9 => oq _ (by have := gk_adB s.heap.size hk9; omega))
  have h6 := h6.kept (oq _ (by omega))
  have r6 := fun i (hi : i < 4) => (r6 i hi).kept (oq _ (by omega))
  have h7 := h7.kept (oq _ (by omega))
  have h8 := h8.kept (oq _ (by omega))
  have h10 := h10.kept (oq _ (by omega))
  have r10 := fun i (hi : i < 5) => (r10 i hi).kept (oq _ (by omega))
  have h11 := h11.kept (oq _ (by omega))
  have r11 := fun i (hi : i < 5) => (r11 i hi).kept (oq _ (by omega))
  have h14 := h14.kept (oq _ (by omega))
  have h15 := h15.kept (oq _ (by omega))
  have h16 := h16.kept (oq _ (by omega))
  have h18 := h18.kept (oq _ (by omega))
  have h20 := h20.kept (oq _ (by omega))
  have h21 := h21.kept (oq _ (by omega))
  have r21 := fun i (hi : i < 4) => (r21 i hi).kept (oq _ (by omega))
  have hz : H.size = s.heap.size + 117 := by omega
  refine lv_iconst (v := 0) hx hb dX9_init_142 (by decide) ?_
  refine lv_istore_n (lv' := [(3, .int (nI 0)), (0, .ref a), (1, .ref b0), (2, .int d0)]) hx hb dX9_init_143 rfl hl (by decide) rfl (fun ls hl => ?_)
  exact loop 6 0 rfl _ _ _ ⟨ho, hG, h6, r6, h7, h8, h10, r10, h11, r11, h13, h14, h16, h18, h20, h21, r21⟩ h15 hz hS _ hl
