/-! ===== the gate's constructors ===== -/
def gk_cA (a sz : Nat) : Nat → Prop := fun q => q = a ∨ sz ≤ q
def gk_Pi (D : va_G) (cI cZ cG cL : ClassId) (av : List Value) (a : Nat) (e0 : va_E) (sz : Nat) : Array Value → State → Prop := va_Pc av (fun U => U.heap.size = sz ∧ va_at D vwCl (a, e0) U.heap ∧ gk_K D cI cZ cG cL U)
theorem gk_Pi.blind {D : va_G} {cI cZ cG cL : ClassId} {av : List Value} {a : Nat} {e0 : va_E} {sz : Nat} : FrameBlind (gk_Pi D cI cZ cG cL av a e0 sz) := fun _ _ _ _ q => ⟨q.1, q.2.1, q.2.2.1, gk_K.blind q.2.2.2⟩
abbrev gk_Qc (P : Heap → Prop) (a sz N : Nat) : Array Value → State → Outcome → State → Prop := va_Qv (fun _ : Unit => True) (fun _ t => t.heap.size = sz + N ∧ P t.heap) (gk_cA a sz)
/-- a row at q, its cells at b -/
def gk_rw (D : va_G) (cI : ClassId) (q b n : Nat) (c : Int32) (H : Heap) : Prop := va_at D vwCl (q, .inr (2, [.ref b])) H ∧ va_at D vwCl (b, .inl (cI, (n, .inl (gk_fill n c (fun _ => 0))))) H
theorem gk_rw.kept {D : va_G} {cI : ClassId} {q b n : Nat} {c : Int32} {H H1 : Heap} (h : gk_rw D cI q b n c H) (h1 : H1[q]? = H[q]?) (h2 : H1[b]? = H[b]?) : gk_rw D cI q b n c H1 := ⟨h.1.kept h1, h.2.kept h2⟩
section GKN
variable {p : Program} {l : Launch} {e : Env} {R : Room} {s : State} {m : MethodId} {args : Array Value} {below : List Frame} {meth : Method} {c : Code} {H : Heap} {locs : List Loc} {cells slots : Nat} {Q : State → Prop}
variable {D : va_G} {cI cZ cG cL : ClassId} {cc : ByteArray} {pc a nL : Nat} {ls : Array Slot} {rest st0 : List Value} {A : Nat → Prop} {H0 : Heap} {tys : List (ClassId × FieldType)}
variable {y : MethodName} {ws : List Cond} {rm : Room} {own : String} {index n maxL mc ms N : Nat} {bytes : ByteArray} {Ts : List Cond} {b : Addr} {As : List Value}
/-- a new object -/
theorem gk_new (hexec : p.tables.exec = Jvm.exec) (hb : c.code = cc) {own C : String} {T : u_T} {N ci index : Nat} {Ts : List Cond} (hts : ∀ w ∈ Ts, w.before args s = true) (hin : ∀ w ∈ u_ws C T N, w ∈ Ts) (ty : Nat → FieldType) (hty : ∀ k, k < N → parseFieldDescriptor (T k).2.2.1 = some (ty k)) (hown : s.vm.findClass own = some m.cls) (hcl : (Cond.classLink own index C).before args s = true) (hinst : (Cond.instantiable C N).before args s = true) (hini : (Cond.initialized C).before args s = true)
    (hK : va_K D vwCl tys s) (hS : va_S A H0 H locs) (hc : vwCl[ci]? = some (C, T, N)) {fs : List Value} (hfs : ∀ j, j < N → defaultValue (ty j) = vp_V fs j) (hf : cells + 1 ≤ R.cells ∧ slots + N ≤ R.slots) (hdg : decode cc pc = .ok (.new index, 3))
    (kk : ∀ (q : Nat) (H1 : Heap), va_at D vwCl (q, .inr (ci, fs)) H1 → q = H.size → H1.size = H.size + 1 → (∀ z : Nat, z < H.size → H1[z]? = H[z]?) → va_S A H0 H1 locs →
      W p l e R s m args below meth c H1 locs (cells + 1) (slots + N) Q (F0 m (pc + 3) ls (.ref q :: rest))) : W p l e R s m args below meth c H locs cells slots Q (F0 m pc ls rest) := by
  have hKn := hK.1 ci _ hc
  refine W.newcK hexec hb hown hcl hinst hini rfl hdg hf.1 hf.2 hKn.2.1 rfl fun H1 kC hkC e1 z1 o1 => ?_
  exact kk H.size H1 ⟨_, hc, (u_born ty hts hin hKn hkC e1 hty).to hfs⟩ rfl z1 o1 ⟨Nat.le_trans hS.1 (by omega), fun x h1 h2 => (o1 x (Nat.lt_of_lt_of_le h1 hS.1)).trans (hS.2.1 x h1 h2), hS.2.2⟩
/-- putfield of a final field in a constructor -/
theorem gk_putF (hexec : p.tables.exec = Jvm.exec) (hb : c.code = cc) {own ref C : String} {T : u_T} {N ci index : Nat} {Ts : List Cond} (hts : ∀ w ∈ Ts, w.before args s = true) (hin : ∀ w ∈ u_ws C T N, w ∈ Ts) (ty0 : Nat → FieldType) (hty : ∀ k, k < N → parseFieldDescriptor (T k).2.2.1 = some (ty0 k)) (hnm : ∀ a, a < N → ∀ b, b < N → a ≠ b → (T a).2.1 ≠ (T b).2.1) (hown : s.vm.findClass own = some m.cls) (hK : va_K D vwCl tys s) (hS0 : va_S A H0 H locs) (hAa : A a) {fs : List Value} (h : va_at D vwCl (a, .inr (ci, fs)) H) (hc : vwCl[ci]? = some (C, T, N)) (k : Nat) (hk : k < N) (hlink : (Cond.fieldLink own index ref (T k).2.1 (T k).2.2.1).before args s = true) (hsame : ∀ x, s.fieldFound? (T k).1 (T k).2.1 (T k).2.2.1 = some x → s.fieldFound? ref (T k).2.1 (T k).2.2.1 = some x) (hfin : (T k).2.2.2 = true) (hin2 : meth.name = "<init>") (hdecl : (T k).1 = own) {ty : FieldType} {v : Value} (hd : parseFieldDescriptor (T k).2.2.1 = some ty) (hn : narrow ty v = v) (hfit : fits ty v = true) (hl : k < fs.length)
    (hdg : decode cc pc = .ok (.putfield index, 3)) (kk : ∀ (H1 : Heap) (locs1 : List Loc), va_at D vwCl (a, .inr (ci, fs.set k v)) H1 → H1.size = H.size → (∀ q, q ≠ a → H1[q]? = H[q]?) → va_S A H0 H1 locs1 → W p l e R s m args below meth c H1 locs1 cells slots Q (F0 m (pc + 3) ls rest)) : W p l e R s m args below meth c H locs cells slots Q (F0 m pc ls (v :: .ref a :: rest)) := by
  have hap := va_apart (own := own) hts hin ty0 hty hnm hK hc
  obtain ⟨r, h1, cell, q1, q2, q3, q4⟩ := h
  have hr : r = (C, T, N) := Option.some.inj (h1.symm.trans hc)
  subst hr
  obtain ⟨hS, hfc, kC, hkC, hkind⟩ := hK.1 ci _ hc
  obtain ⟨cf, kf, fi, f, hi, hsl⟩ := hS k hk
  have hlay := hts _ (hin _ (u_in_lay hk))
  unfold u_lay at hlay
  rw [if_pos hfin] at hlay
  have hst := (u_facts hfc hkC (u_lays hts hin hk) hi).1
  have hcf : m.cls = cf := by
    obtain ⟨_, _, c', _, _, _, -, -, hf', -, -, -, hown2, -⟩ := Cond.laysFinal_spec hlay
    have e1 : c' = cf := by have := hi.symm.trans hf'; simp at this; exact this.1.symm
    rw [hdecl] at hown2
    rw [← e1]; exact Option.some.inj (hown.symm.trans hown2)
  have h6 := u_fits hfc hkC hkind (Or.inr hlay) hi hd hn hfit
  refine W.putFinK hexec hb hown hlink (hsame _ hi) hst hcf hin2 (by rw [q2]; exact h6) q1 q3 (by rw [hsl]; exact k2_hasslot (q4 k hk)) rfl rfl hdg fun H' e1 e2 e3 => ?_
  rw [hsl] at e1 ⊢
  exact kk H' _ ⟨_, hc, t_OB.to (V := updV (vp_V fs) k v) ⟨_, e1, q2, q3, t_set q4 hap hk v⟩ (fun j _ => vp_updV_set hl v j)⟩ e2 e3 (hS0.put e2 e3 hAa)
/-- a new row of ints -/
theorem gk_newi (hexec : p.tables.exec = Jvm.exec) (hb : c.code = cc) (harr : (Cond.arrayClass .int).before args s = true) (hK : gk_K D cI cZ cG cL s) (hS : va_S A H0 H locs) {n : Int32} {N' : Nat} (hn : ¬ n < 0) (hN : n.toNatClampNeg = N') (hby : N' * 4 ≤ 536870912) (hf : cells + 1 ≤ R.cells ∧ slots + N' ≤ R.slots) (hdg : decode cc pc = .ok (.newarray .int, 2))
    (kk : ∀ (q : Nat) (H1 : Heap), va_at D vwCl (q, .inl (cI, (N', .inl (fun _ => 0)))) H1 → q = H.size → H1.size = H.size + 1 → (∀ z : Nat, z < H.size → H1[z]? = H[z]?) → va_S A H0 H1 locs → W p l e R s m args below meth c H1 locs (cells + 1) (slots + N') Q (F0 m (pc + 2) ls (.ref q :: rest))) : W p l e R s m args below meth c H locs cells slots Q (F0 m pc ls (.int n :: rest)) := by
  subst hN
  refine W.newa (atype := .int) hexec hb harr rfl hdg rfl hn hby hf.1 hf.2 fun cA kA comp f1 f2 f3 => ?_
  have hcA : cA = cI := by
    have h2 := (hK.1.2 0 (cI, .int) rfl).2
    have h3 : s.vm.findClass ("[" ++ FieldType.int.toString) = some cI := h2
    exact Option.some.inj (f1.symm.trans h3)
  subst hcA
  have e1 : (H.push ({ cls := cA, slots := Array.replicate n.toNatClampNeg (defaultValue (newarray.typeOf .int)), vm := .none } : Cell))[H.size]? = some (vp_cell cA (n.toNatClampNeg, .inl (fun _ => 0))) := by
    rw [Array.getElem?_push_size, vp_cell_i]
    congr 1
    exact arrV_new cA _ _
  have e2 : ∀ z : Nat, z < H.size → (H.push ({ cls := cA, slots := Array.replicate n.toNatClampNeg (defaultValue (newarray.typeOf .int)), vm := .none } : Cell))[z]? = H[z]? := fun z hz => by
    rw [Array.getElem?_push_lt hz, Array.getElem?_eq_getElem hz]
  refine kk H.size _ e1 rfl (by rw [Array.size_push]) e2 ⟨Nat.le_trans hS.1 (by rw [Array.size_push]; omega), fun q h1 h2 => (e2 q (Nat.lt_of_lt_of_le h1 hS.1)).trans (hS.2.1 q h1 h2), hS.2.2⟩
/-- a constructor is called -/
theorem gk_ctor {P : Heap → Prop} {e0 : va_E} (C0 : CallFix p m c cc nL s args Ts own) (hM : Met l y ws rm (gk_Pi D cI cZ cG cL (.ref b :: As) b e0 H.size) (gk_Qc P b H.size N) mc ms (gk_cA b H.size)) (cw : CallB R s args own index y bytes maxL none ws rm mc ms n ∧ y.name = "<init>" ∧ (Cond.instanceMethod y).before args s = true)
    (h : va_at D vwCl (b, e0) H) (hK : gk_K D cI cZ cG cL s) (hS : va_S A s.heap H locs) (hAb : A b) (hA : ∀ q, s.heap.size ≤ q → A q) (hn : As.length = n) (hsz : ls.size = nL) (hst : st0 = As.reverse ++ .ref b :: rest)
    (hrm : 2 * (F0 m pc ls st0).monitorRoom + (rest.map fun v => v.category).sum ≤ 8) (hdg : decode cc pc = .ok (.invokespecial index, 3)) (hf : cells + mc ≤ R.cells ∧ slots + ms ≤ R.slots)
    (kk : ∀ (H1 : Heap) (locs1 : List Loc), H1.size = H.size + N → P H1 → (∀ q : Nat, q < H.size → q ≠ b → H1[q]? = H[q]?) → va_S A s.heap H1 locs1 → W p l e R s m args below meth c H1 locs1 (cells + mc) (slots + ms) Q (F0 m (pc + 3) ls rest)) : W p l e R s m args below meth c H locs cells slots Q (F0 m pc ls st0) := by
  have up : ∀ q, gk_cA b H.size q → A q := fun q h => h.elim (fun e => by rw [e]; exact hAb) (fun h2 => hA q (Nat.le_trans hS.1 h2))
  refine va_callv (va_runI (As := As) (rest := rest) C0 hM cw ⟨gk_Pi.blind, fun U hU hW' => ⟨rfl, by rw [hU], by rw [hU]; exact h, hK.warm hW'⟩⟩ rfl hn hsz hst hrm hdg hf) hS (fun q _ h => up q h) up (fun u t H1 locs1 ht _ hw hB hz hq hS1 => ?_)
  subst ht
  exact kk _ locs1 hB.1 hB.2 (fun q h1 h2 => hq q h1 (fun h3 => h3.elim h2 (fun h4 => absurd h1 (Nat.not_lt.mpr h4)))) hS1
/-- .. a private one of a nest mate -/
theorem gk_ctorN {P : Heap → Prop} {e0 : va_E} {host : String} (C0 : CallFix p m c cc nL s args Ts own) (hM : Met l y ws rm (gk_Pi D cI cZ cG cL (.ref b :: As) b e0 H.size) (gk_Qc P b H.size N) mc ms (gk_cA b H.size)) (cw : va_CN R s args own index y host bytes maxL none ws rm mc ms n ∧ y.name = "<init>" ∧ (Cond.instanceMethod y).before args s = true)
    (h : va_at D vwCl (b, e0) H) (hK : gk_K D cI cZ cG cL s) (hS : va_S A s.heap H locs) (hAb : A b) (hA : ∀ q, s.heap.size ≤ q → A q) (hn : As.length = n) (hsz : ls.size = nL) (hst : st0 = As.reverse ++ .ref b :: rest)
    (hrm : 2 * (F0 m pc ls st0).monitorRoom + (rest.map fun v => v.category).sum ≤ 8) (hdg : decode cc pc = .ok (.invokespecial index, 3)) (hf : cells + mc ≤ R.cells ∧ slots + ms ≤ R.slots)
    (kk : ∀ (H1 : Heap) (locs1 : List Loc), H1.size = H.size + N → P H1 → (∀ q : Nat, q < H.size → q ≠ b → H1[q]? = H[q]?) → va_S A s.heap H1 locs1 → W p l e R s m args below meth c H1 locs1 (cells + mc) (slots + ms) Q (F0 m (pc + 3) ls rest)) : W p l e R s m args below meth c H locs cells slots Q (F0 m pc ls st0) := by
  have up : ∀ q, gk_cA b H.size q → A q := fun q h => h.elim (fun e => by rw [e]; exact hAb) (fun h2 => hA q (Nat.le_trans hS.1 h2))
  refine va_callv (va_runIN (As := As) (rest := rest) C0 hM cw ⟨gk_Pi.blind, fun U hU hW' => ⟨rfl, by rw [hU], by rw [hU]; exact h, hK.warm hW'⟩⟩ rfl hn hsz hst hrm hdg hf) hS (fun q _ h => up q h) up (fun u t H1 locs1 ht _ hw hB hz hq hS1 => ?_)
  subst ht
  exact kk _ locs1 hB.1 hB.2 (fun q h1 h2 => hq q h1 (fun h3 => h3.elim h2 (fun h4 => absurd h1 (Nat.not_lt.mpr h4)))) hS1
end GKN
theorem gk_oi1 : Cond.instanceMethod objectInit ∈ gk_BG := gk_bg 84 (by decide +kernel) (by decide +kernel)
theorem gk_oi2 : Cond.code objectInit ⟨#[0xb1]⟩ 1 none ∈ gk_BG := gk_bg 85 (by decide +kernel) (by decide +kernel)
theorem oi_X0 : Cond.methodLink RX0 3 objectInit ∈ gk_BG := gk_bg 643 (by decide +kernel) (by decide +kernel)
theorem oi_X1 : Cond.methodLink RX1 3 objectInit ∈ gk_BG := gk_bg 529 (by decide +kernel) (by decide +kernel)
theorem oi_X2 : Cond.methodLink RX2 1 objectInit ∈ gk_BG := gk_bg 496 (by decide +kernel) (by decide +kernel)
theorem oi_X3 : Cond.methodLink RX3 3 objectInit ∈ gk_BG := gk_bg 590 (by decide +kernel) (by decide +kernel)
theorem oi_X4 : Cond.methodLink RX4 1 objectInit ∈ gk_BG := gk_bg 484 (by decide +kernel) (by decide +kernel)
theorem oi_X5 : Cond.methodLink RX5 3 objectInit ∈ gk_BG := gk_bg 554 (by decide +kernel) (by decide +kernel)
theorem oi_X6 : Cond.methodLink RX6 3 objectInit ∈ gk_BG := gk_bg 490 (by decide +kernel) (by decide +kernel)
theorem oi_X7 : Cond.methodLink RX7 3 objectInit ∈ gk_BG := gk_bg 715 (by decide +kernel) (by decide +kernel)
theorem oi_X8 : Cond.methodLink RX8 1 objectInit ∈ gk_BG := gk_bg 478 (by decide +kernel) (by decide +kernel)
theorem oi_X9 : Cond.methodLink RX9 1 objectInit ∈ gk_BG := gk_bg 473 (by decide +kernel) (by decide +kernel)
theorem df_X0 : ∀ j, j < 7 → defaultValue (tyX0 j) = vp_V [.int 0, .null, .null, .null, .null, .null, .null] j := by
  intro j hj
  match j, hj with
  | 0, _ => rfl
  | 1, _ => rfl
  | 2, _ => rfl
  | 3, _ => rfl
  | 4, _ => rfl
  | 5, _ => rfl
  | 6, _ => rfl
theorem df_X1 : ∀ j, j < 4 → defaultValue (tyX1 j) = vp_V [.int 0, .int 0, .null, .null] j := by
  intro j hj
  match j, hj with
  | 0, _ => rfl
  | 1, _ => rfl
  | 2, _ => rfl
  | 3, _ => rfl
theorem df_X2 : ∀ j, j < 1 → defaultValue (tyX2 j) = vp_V [.null] j := by
  intro j hj
  match j, hj with
  | 0, _ => rfl
theorem df_X3 : ∀ j, j < 10 → defaultValue (tyX3 j) = vp_V [.int 0, .null, .null, .null, .null, .null, .null, .null, .null, .null] j := by
  intro j hj
  match j, hj with
  | 0, _ => rfl
  | 1, _ => rfl
  | 2, _ => rfl
  | 3, _ => rfl
  | 4, _ => rfl
  | 5, _ => rfl
  | 6, _ => rfl
  | 7, _ => rfl
  | 8, _ => rfl
  | 9, _ => rfl
theorem df_X4 : ∀ j, j < 7 → defaultValue (tyX4 j) = vp_V [.null, .null, .null, .null, .null, .int 0, .int 0] j := by
  intro j hj
  match j, hj with
  | 0, _ => rfl
  | 1, _ => rfl
  | 2, _ => rfl
  | 3, _ => rfl
  | 4, _ => rfl
  | 5, _ => rfl
  | 6, _ => rfl
theorem df_X5 : ∀ j, j < 6 → defaultValue (tyX5 j) = vp_V [.int 0, .null, .null, .null, .null, .null] j := by
  intro j hj
  match j, hj with
  | 0, _ => rfl
  | 1, _ => rfl
  | 2, _ => rfl
  | 3, _ => rfl
  | 4, _ => rfl
  | 5, _ => rfl
theorem df_X6 : ∀ j, j < 5 → defaultValue (tyX6 j) = vp_V [.int 0, .null, .null, .null, .null] j := by
  intro j hj
  match j, hj with
  | 0, _ => rfl
  | 1, _ => rfl
  | 2, _ => rfl
  | 3, _ => rfl
  | 4, _ => rfl
theorem df_X7 : ∀ j, j < 11 → defaultValue (tyX7 j) = vp_V [.null, .null, .null, .null, .null, .null, .null, .int 0, .int 0, .int 0, .int 0] j := by
  intro j hj
  match j, hj with
  | 0, _ => rfl
  | 1, _ => rfl
  | 2, _ => rfl
  | 3, _ => rfl
  | 4, _ => rfl
  | 5, _ => rfl
  | 6, _ => rfl
  | 7, _ => rfl
  | 8, _ => rfl
  | 9, _ => rfl
  | 10, _ => rfl
theorem df_X8 : ∀ j, j < 4 → defaultValue (tyX8 j) = vp_V [.null, .null, .null, .null] j := by
  intro j hj
  match j, hj with
  | 0, _ => rfl
  | 1, _ => rfl
  | 2, _ => rfl
  | 3, _ => rfl
theorem df_X9 : ∀ j, j < 22 → defaultValue (tyX9 j) = vp_V [.null, .null, .int 0, .int 0, .int 0, .int 0, .null, .null, .null, .int 0, .null, .null, .int 0, .null, .null, .null, .null, .int 0, .null, .int 0, .null, .null] j := by
  intro j hj
  rcases (show j = 0 ∨ j = 1 ∨ j = 2 ∨ j = 3 ∨ j = 4 ∨ j = 5 ∨ j = 6 ∨ j = 7 ∨ j = 8 ∨ j = 9 ∨ j = 10 ∨ j = 11 ∨ j = 12 ∨ j = 13 ∨ j = 14 ∨ j = 15 ∨ j = 16 ∨ j = 17 ∨ j = 18 ∨ j = 19 ∨ j = 20 ∨ j = 21 by omega) with rfl | rfl | rfl | rfl | rfl | rfl | rfl | rfl | rfl | rfl | rfl | rfl | rfl | rfl | rfl | rfl | rfl | rfl | rfl | rfl | rfl | rfl
  all_goals rfl
abbrev gk_PfZ (D : va_G) (cI : ClassId) (a n : Nat) (f : Nat → Int32) (x : Int32) (sz : Nat) : Array Value → State → Prop := va_Pc [.ref a, .int x] (fun U => va_at D vwCl (a, .inl (cI, (n, .inl f))) U.heap ∧ va_K D vwCl [(cI, .int)] U ∧ U.heap.size = sz)
set_option maxHeartbeats 4000000 in
set_option maxRecDepth 100000 in
theorem c_fillZ (l : Launch) (D : va_G) {cI : ClassId} {a n : Nat} {f : Nat → Int32} {x : Int32} {sz : Nat} (hn : n < 2 ^ 31) : Met l yJ7_fill_53178 wsJ7_fill_53178 rmJ7_fill (gk_PfZ D cI a n f x sz) (va_Qv (fun _ : Unit => True) (fun _ t => va_at D vwCl (a, .inl (cI, (n, .inl (gk_fill n x f)))) t.heap ∧ t.heap.size = sz) (fun q => q = a)) 0 0 (fun q => q = a) := by
  refine Met.ofW (cc := cJ7_fill_53178) (maxL := 4) (ret := none) (by decide) rfl ?_
  intro p e s m args below meth c s₁ B hml0 hv0
  obtain ⟨rfl, hA, hK, hsz⟩ := hv0
  subst hsz
  have hx := B.exec
  have hb := B.bytes
  have hr := B.returns
  have hlocks := B.notSynchronized
  have hl := lv_entry ([.ref a, .int x]) (n := 4) (Nat.le_of_ble_eq_true rfl)
  rw [lg_entry_eq]
  generalize (lg_sl ([.ref a, .int x]) ++ List.replicate (4 - (lg_sl ([.ref a, .int x])).length) Slot.unset).toArray = ls at hl ⊢
  have hl : lv_has ls 4 [(0, .ref a), (1, .int x)] := hl
  show W p l e rmJ7_fill s m _ below meth c s.heap [] 0 0 _ _
  have loop : ∀ (d j : Nat), j + d = n → ∀ (H : Heap) (locs : List Loc), va_at D vwCl (a, .inl (cI, (n, .inl (gk_fill j x f)))) H → H.size = s.heap.size → va_S (fun q => q = a) s.heap H locs → ∀ (ls : Array Slot), lv_has ls 4 [(0, .ref a), (1, .int x), (2, .int (nI j)), (3, .int (nI n))] →
      W p l e rmJ7_fill s m (([.ref a, .int x] : List Value).toArray) below meth c H locs 0 0 (MQ below (va_Qv (fun _ : Unit => True) (fun _ t => va_at D vwCl (a, .inl (cI, (n, .inl (gk_fill n x f)))) t.heap ∧ t.heap.size = s.heap.size) (fun q => q = a)) (([.ref a, .int x] : List Value).toArray) s 0 0 (fun q => q = a)) (F0 m 5 ls []) := by
    intro d
    induction d with
    | zero =>
      intro j hj H locs hA hZ hS ls hl
      have hj : j = n := hj
      subst hj
      refine lv_iload_n hx hb dJ7_fill_53178_5 rfl (lv_at hl 2 rfl) ?_
      refine lv_iload_n hx hb dJ7_fill_53178_6 rfl (lv_at hl 3 rfl) ?_
      refine lv_icmp_ge (tgt := 20) hx hb dJ7_fill_53178_7 (by decide) (fun c7 => ?_) (fun c7 => ?_)
      · exact W.vret hx hb hr (fun t ht _ => ⟨⟨(), rfl, trivial, by show va_at D vwCl _ t.heap ∧ t.heap.size = _; rw [ht]; exact ⟨hA, hZ⟩⟩, hS.F ht⟩) hS.2.2 dJ7_fill_53178_20
      · exact absurd (nI_le (Nat.le_refl j) hn) c7
    | succ d ih =>
      intro j hj H locs hA hZ hS ls hl
      have hjn : j < n := by omega
      refine lv_iload_n hx hb dJ7_fill_53178_5 rfl (lv_at hl 2 rfl) ?_
      refine lv_iload_n hx hb dJ7_fill_53178_6 rfl (lv_at hl 3 rfl) ?_
      refine lv_icmp_ge (tgt := 20) hx hb dJ7_fill_53178_7 (by decide) (fun c7 => ?_) (fun c7 => ?_)
      · exact absurd c7 (nI_ge hjn hn)
      · refine lv_aload_n hx hb dJ7_fill_53178_10 rfl (lv_at hl 0 rfl) ?_
        refine lv_iload_n hx hb dJ7_fill_53178_11 rfl (lv_at hl 2 rfl) ?_
        refine lv_iload_n hx hb dJ7_fill_53178_12 rfl (lv_at hl 1 rfl) ?_
        refine gk_iast hx hb hK hS rfl 0 hA rfl (vp_in_nI hjn hn) dJ7_fill_53178_13 (fun H locs h1 hZ1 oq hS => ?_)
        have e1 : upd (gk_fill j x f) (nI j).toNatClampNeg x = gk_fill (j + 1) x f := by
          rw [nI_clamp (Nat.lt_trans hjn hn)]
          funext k
          by_cases h1 : k = j
          · subst h1
            simp [upd, gk_fill]
          · by_cases h2 : k < j
            · simp [upd, gk_fill, h1, h2, Nat.lt_succ_of_lt h2]
            · simp [upd, gk_fill, h1, h2, show ¬ k < j + 1 by omega]
        rw [e1] at h1
        refine lv_iinc (v := nI (j + 1)) (lv' := [(2, .int (nI (j + 1))), (0, .ref a), (1, .int x), (3, .int (nI n))]) hx hb dJ7_fill_53178_14 hl (k := 2) rfl (nI_1 j) (by decide) rfl (fun ls hl => ?_)
        refine lv_goto (tgt := 5) hx hb dJ7_fill_53178_17 (by decide) ?_
        exact ih (j + 1) (by omega) _ _ h1 (hZ1.trans hZ) hS _ (lv_sub hl [1, 2, 0, 3] rfl)
  refine lv_iconst (v := 0) hx hb dJ7_fill_53178_0 (by decide) ?_
  refine lv_istore_n (lv' := [(2, .int 0), (0, .ref a), (1, .int x)]) hx hb dJ7_fill_53178_1 rfl hl (by decide) rfl (fun ls hl => ?_)
  refine lv_aload_n hx hb dJ7_fill_53178_2 rfl (lv_at hl 1 rfl) ?_
  refine gk_alen hx hb hK 0 hA rfl (v := nI n) rfl dJ7_fill_53178_3 ?_
  refine lv_istore_n (lv' := [(3, .int (nI n)), (2, .int 0), (0, .ref a), (1, .int x)]) hx hb dJ7_fill_53178_4 rfl hl (by decide) rfl (fun ls hl => ?_)
  have e0 : gk_fill 0 x f = f := by funext k; simp [gk_fill]
  exact loop n 0 (by omega) _ _ (by rw [e0]; exact hA) rfl va_S.rf _ (lv_sub hl [2, 3, 1, 0] rfl)
abbrev rmX2_init (N' : Nat) : Room := { frames := 1, cells := 1, slots := N', locals := 23 }
set_option maxHeartbeats 4000000 in
set_option maxRecDepth 100000 in
theorem c_X2_init (l : Launch) (D : va_G) (cI cZ cG cL : ClassId) {a sz : Nat} {n c9 : Int32} {N' : Nat} (hn0 : ¬ n < 0) (hN : n.toNatClampNeg = N') (hby : N' * 4 ≤ 536870912) : Met l yX2_init wsX2_init (rmX2_init N') (gk_Pi D cI cZ cG cL [.ref a, .int n, .int c9] a (.inr (2, [.null])) sz) (gk_Qc (gk_rw D cI a sz N' c9) a sz 1) 1 N' (gk_cA a sz) := by
  refine Met.ofW (cc := cX2_init) (maxL := 3) (ret := none) (by decide) rfl ?_
  intro p e s m args below meth c s₁ B hml0 hv0
  obtain ⟨rfl, hsz, ho, hK⟩ := hv0
  subst hsz
  have C0 : gk_F p s m ([.ref a, .int n, .int c9] : List Value).toArray meth c cX2_init 3 none RX2 := ⟨B.exec, B.bytes, hml0, findClass_of_methodNamed B.named, fun w hw => atoms_spec (ws := wsX2_init) B.pre w (List.mem_cons_of_mem _ hw), B.returns, B.notSynchronized⟩
  obtain ⟨hx, hb, hml, hown, hts, hr, hlocks⟩ := id C0
  have hin : meth.name = "<init>" := (name_of_methodNamed B.named B.method).1
  have ha0 : a < s.heap.size := ho.lt
  have hS : va_S (gk_cA a s.heap.size) s.heap s.heap [] := va_S.rf
  have hl := lv_entry ([.ref a, .int n, .int c9]) (n := 3) (Nat.le_of_ble_eq_true rfl)
  rw [lg_entry_eq]
  generalize (lg_sl ([.ref a, .int n, .int c9]) ++ List.replicate (3 - (lg_sl ([.ref a, .int n, .int c9])).length) Slot.unset).toArray = ls at hl ⊢
  have hl : lv_has ls 3 [(0, .ref a), (1, .int n), (2, .int c9)] := hl
  show W p l e (rmX2_init N') s m _ below meth c s.heap [] 0 0 _ _
  refine lv_aload_n hx hb dX2_init_0 rfl (lv_at hl 0 rfl) ?_
  refine W.objInit hx hb hown (hts _ oi_X2) (hts _ gk_oi1) (hts _ gk_oi2) rfl (by rw [hml]; exact hl.1) rfl dX2_init_1 (Nat.le_of_ble_eq_true rfl) (Nat.le_of_ble_eq_true rfl) ?_
  refine W.eq (g2 := F0 m 4 ls []) rfl ?_
  refine lv_aload_n hx hb dX2_init_4 rfl (lv_at hl 0 rfl) ?_
  refine lv_iload_n hx hb dX2_init_5 rfl (lv_at hl 1 rfl) ?_
  refine lv_iconst (v := 0) hx hb dX2_init_6 (by decide) ?_
  refine va_mmax hx hb (hml.trans hl.1.symm) hown (hts _ ml_X2_7) (hts _ st_J9_max_7cf53) (hts _ in_J9) (hts _ co_J9_max_7cf53) (Nat.le_of_ble_eq_true rfl) (Nat.le_of_ble_eq_true rfl) (Nat.zero_le _) (Nat.zero_le _) dX2_init_7 ?_
  have hz : s.heap.size = s.heap.size := rfl
  rw [if_neg hn0]
  refine gk_newi hx hb (hts _ ac_int) hK hS hn0 hN hby ⟨Nat.le_of_ble_eq_true rfl, by show 0 + N' ≤ N'; omega⟩ dX2_init_10 (fun q H hq q1 z1 hk hS => ?_)
  rw [hz] at q1 z1
  subst q1
  have ho := ho.kept (hk _ (by omega))
  refine gk_putF (ty := .array .int) (v := .ref s.heap.size) hx hb hts iwX2 tyX2 tyX2_ok nmX2 hown hK.1 hS (Or.inl rfl) ho rfl 0 (by decide) (hts _ fl_X2_13) (fun _ h9 => h9) rfl hin rfl (by decide +kernel) rfl rfl (Nat.le_of_ble_eq_true rfl) dX2_init_12 (fun H locs ho z2 oq hS => ?_)
  have ho : va_at D vwCl (a, .inr (2, [.ref s.heap.size])) H := ho
  have hq := hq.kept (oq _ (by omega))
  refine lv_aload_n hx hb dX2_init_15 rfl (lv_at hl 0 rfl) ?_
  refine gk_get hx hb hts iwX2 hown hK.1 ho rfl 0 (by decide) (hts _ fl_X2_13) (fun _ h9 => h9) rfl dX2_init_16 ?_
  refine lv_iload_n hx hb dX2_init_19 rfl (lv_at hl 2 rfl) ?_
  refine va_callv (A0 := gk_cA a s.heap.size) (H0 := s.heap) (va_runS (As := [.ref s.heap.size, .int c9]) (rest := []) ⟨hx, hb, hml, hown, hts⟩ (c_fillZ l D (cI := cI) (a := s.heap.size) (n := N') (f := fun _ => 0) (x := c9) (sz := H.size) (by omega)) (va_cwS 2 hts (gk_gS ml_X2_19 st_J7_fill_53178 in_J7 co_J7_fill_53178) rfl rfl rfl (by decide +kernel) ⟨Nat.le_of_ble_eq_true rfl, Nat.le_of_ble_eq_true rfl⟩) ⟨fun a U g mk q => ⟨q.1, q.2.1, va_K.moved (u := U) (U := U.calling g mk a) (Vm.Alike.refl U.vm) q.2.2.1, q.2.2.2⟩, fun U hU hW => ⟨rfl, by rw [hU]; exact hq, va_K.moved hW.alike (hK.1.sub [0] rfl), by rw [hU]⟩⟩ rfl rfl hl.1 rfl (lv_room (Nat.le_of_ble_eq_true rfl)) dX2_init_20 ⟨Nat.le_of_ble_eq_true rfl, by show 0 + N' + 0 ≤ N'; omega⟩) hS (fun q _ h => Or.inr (by rw [h]; exact Nat.le_refl _)) (fun q h => Or.inr (by rw [h]; exact Nat.le_refl _)) (fun u t H locs ht _ hw hB hz3 hk hS => ?_)
  have hB : va_at D vwCl _ t.heap ∧ t.heap.size = _ := hB
  rw [ht] at hB
  have ho := ho.kept (hk _ (by omega) (by omega))
  refine W.widen (k := 1) (n := N') (by omega) (by omega) ?_
  exact W.vret hx hb hr (fun t ht _ => ⟨⟨(), rfl, trivial, by rw [ht]; exact hB.2.trans (z2.trans z1), by rw [ht]; exact ⟨ho, hB.1⟩⟩, hS.F ht⟩) hS.2.2 dX2_init_23 (hlocks := hlocks)
def gk_i6 (D : va_G) (cI : ClassId) (a q : Nat) (H : Heap) : Prop := va_at D vwCl (a, .inr (6, [.int 0, .ref q, .ref (q + 2), .ref (q + 4), .ref (q + 6)])) H ∧ gk_rw D cI q (q + 1) 12 0 H ∧ gk_rw D cI (q + 2) (q + 3) 12 0 H ∧ gk_rw D cI (q + 4) (q + 5) 12 0 H ∧ gk_rw D cI (q + 6) (q + 7) 288 0 H
theorem gk_i6.kept {D : va_G} {cI : ClassId} {a q : Nat} {H H1 : Heap} (h : gk_i6 D cI a q H) (hq : ∀ z : Nat, z = a ∨ (q ≤ z ∧ z < q + 8) → H1[z]? = H[z]?) : gk_i6 D cI a q H1 := by
  obtain ⟨ho, h0, h1, h2, h3⟩ := h
  exact ⟨ho.kept (hq _ (Or.inl rfl)), h0.kept (hq _ (Or.inr ⟨by omega, by omega⟩)) (hq _ (Or.inr ⟨by omega, by omega⟩)), h1.kept (hq _ (Or.inr ⟨by omega, by omega⟩)) (hq _ (Or.inr ⟨by omega, by omega⟩)), h2.kept (hq _ (Or.inr ⟨by omega, by omega⟩)) (hq _ (Or.inr ⟨by omega, by omega⟩)), h3.kept (hq _ (Or.inr ⟨by omega, by omega⟩)) (hq _ (Or.inr ⟨by omega, by omega⟩))⟩
abbrev rmX6_init : Room := { frames := 2, cells := 8, slots := 328, locals := 45 }
set_option maxHeartbeats 4000000 in
set_option maxRecDepth 100000 in
theorem c_X6_init (l : Launch) (D : va_G) (cI cZ cG cL : ClassId) {a sz : Nat} : Met l yX6_init wsX6_init rmX6_init (gk_Pi D cI cZ cG cL [.ref a] a (.inr (6, [.int 0, .null, .null, .null, .null])) sz) (gk_Qc (gk_i6 D cI a sz) a sz 8) 8 328 (gk_cA a sz) := by
  refine Met.ofW (cc := cX6_init) (maxL := 1) (ret := none) (by decide) rfl ?_
  intro p e s m args below meth c s₁ B hml0 hv0
  obtain ⟨rfl, hsz, ho, hK⟩ := hv0
  subst hsz
  have C0 : gk_F p s m ([.ref a] : List Value).toArray meth c cX6_init 1 none RX6 := ⟨B.exec, B.bytes, hml0, findClass_of_methodNamed B.named, fun w hw => atoms_spec (ws := wsX6_init) B.pre w (List.mem_cons_of_mem _ hw), B.returns, B.notSynchronized⟩
  obtain ⟨hx, hb, hml, hown, hts, hr, hlocks⟩ := id C0
  have hin : meth.name = "<init>" := (name_of_methodNamed B.named B.method).1
  have ha0 : a < s.heap.size := ho.lt
  have hS : va_S (gk_cA a s.heap.size) s.heap s.heap [] := va_S.rf
  have hz : s.heap.size = s.heap.size + 0 := rfl
  have hl := lv_entry ([.ref a]) (n := 1) (Nat.le_of_ble_eq_true rfl)
  rw [lg_entry_eq]
  generalize (lg_sl ([.ref a]) ++ List.replicate (1 - (lg_sl ([.ref a])).length) Slot.unset).toArray = ls at hl ⊢
  have hl : lv_has ls 1 [(0, .ref a)] := hl
  show W p l e rmX6_init s m _ below meth c s.heap [] 0 0 _ _
  refine lv_aload_n hx hb dX6_init_0 rfl (lv_at hl 0 rfl) ?_
  refine W.objInit hx hb hown (hts _ oi_X6) (hts _ gk_oi1) (hts _ gk_oi2) rfl (by rw [hml]; exact hl.1) rfl dX6_init_1 (Nat.le_of_ble_eq_true rfl) (Nat.le_of_ble_eq_true rfl) ?_
  refine W.eq (g2 := F0 m 4 ls []) rfl ?_
  refine lv_aload_n hx hb dX6_init_4 rfl (lv_at hl 0 rfl) ?_
  refine gk_new (fs := [.null]) hx hb hts iwX2 tyX2 tyX2_ok hown (hts _ cl_X6_9) (hts _ it_X2) (hts _ in_X2) hK.1 hS (ci := 2) rfl df_X2 ⟨Nat.le_of_ble_eq_true rfl, Nat.le_of_ble_eq_true rfl⟩ dX6_init_5 (fun q H hn q1 z1 hk hS => ?_)
  obtain rfl : q = s.heap.size := by omega
  have ho := ho.kept (hk _ (by omega))
  have hz : H.size = s.heap.size + 1 := by omega
  refine lv_dup hx hb dX6_init_8 rfl ?_
  refine lv_bipush (v := 12) hx hb dX6_init_9 (by decide) ?_
  refine lv_iconst (v := 0) hx hb dX6_init_11 (by decide) ?_
  have hzb := hz
  refine gk_ctor ⟨hx, hb, hml, hown, hts⟩ (c_X2_init l D cI cZ cG cL (n := 12) (N' := 12) (c9 := 0) (by decide) (by decide) (by decide)) (cwI 2 hts (gk_gI co_X2_init) rfl rfl rfl (hts _ in_X2) (hts _ ml_X6_11) (hts _ im_X2_init) rfl (by decide +kernel) ⟨Nat.le_of_ble_eq_true rfl, Nat.le_of_ble_eq_true rfl⟩) hn hK hS (Or.inr (by omega)) (fun q h => Or.inr h) rfl hl.1 (As := [.int 12, .int 0]) (rest := [.ref s.heap.size, .ref a]) rfl (lv_room (Nat.le_of_ble_eq_true rfl)) dX6_init_12 ⟨Nat.le_of_ble_eq_true rfl, Nat.le_of_ble_eq_true rfl⟩ (fun H locs z1 hP hk hS => ?_)
  rw [hzb] at hP
  have ho := ho.kept (hk _ (by omega) (by omega))
  have h0 := hP
  have hz : H.size = s.heap.size + 2 := by omega
  refine gk_putF (ty := .object "PolicyGate$Row") (v := .ref s.heap.size) hx hb hts iwX6 tyX6 tyX6_ok nmX6 hown hK.1 hS (Or.inl rfl) ho rfl 1 (by decide) (hts _ fl_X6_14) (fun _ h9 => h9) rfl hin rfl (by decide +kernel) rfl rfl (Nat.le_of_ble_eq_true rfl) dX6_init_15 (fun H locs ho z1 oq hS => ?_)
  have ho : va_at D vwCl (a, .inr (6, [.int 0, .ref s.heap.size, .null, .null, .null])) H := ho
  have h0 := h0.kept (oq _ (by omega)) (oq _ (by omega))
  have hz : H.size = s.heap.size + 2 := by omega
  refine lv_aload_n hx hb dX6_init_18 rfl (lv_at hl 0 rfl) ?_
  refine gk_new (fs := [.null]) hx hb hts iwX2 tyX2 tyX2_ok hown (hts _ cl_X6_9) (hts _ it_X2) (hts _ in_X2) hK.1 hS (ci := 2) rfl df_X2 ⟨Nat.le_of_ble_eq_true rfl, Nat.le_of_ble_eq_true rfl⟩ dX6_init_19 (fun q H hn q1 z1 hk hS => ?_)
  obtain rfl : q = (s.heap.size + 2) := by omega
  have h0 := h0.kept (hk _ (by omega)) (hk _ (by omega))
  have ho := ho.kept (hk _ (by omega))
  have hz : H.size = s.heap.size + 3 := by omega
  refine lv_dup hx hb dX6_init_22 rfl ?_
  refine lv_bipush (v := 12) hx hb dX6_init_23 (by decide) ?_
  refine lv_iconst (v := 0) hx hb dX6_init_25 (by decide) ?_
  have hzb := hz
  refine gk_ctor ⟨hx, hb, hml, hown, hts⟩ (c_X2_init l D cI cZ cG cL (n := 12) (N' := 12) (c9 := 0) (by decide) (by decide) (by decide)) (cwI 2 hts (gk_gI co_X2_init) rfl rfl rfl (hts _ in_X2) (hts _ ml_X6_11) (hts _ im_X2_init) rfl (by decide +kernel) ⟨Nat.le_of_ble_eq_true rfl, Nat.le_of_ble_eq_true rfl⟩) hn hK hS (Or.inr (by omega)) (fun q h => Or.inr h) rfl hl.1 (As := [.int 12, .int 0]) (rest := [.ref (s.heap.size + 2), .ref a]) rfl (lv_room (Nat.le_of_ble_eq_true rfl)) dX6_init_26 ⟨Nat.le_of_ble_eq_true rfl, Nat.le_of_ble_eq_true rfl⟩ (fun H locs z1 hP hk hS => ?_)
  rw [hzb] at hP
  have h0 := h0.kept (hk _ (by omega) (by omega)) (hk _ (by omega) (by omega))
  have ho := ho.kept (hk _ (by omega) (by omega))
  have h1 := hP
  have hz : H.size = s.heap.size + 4 := by omega
  refine gk_putF (ty := .object "PolicyGate$Row") (v := .ref (s.heap.size + 2)) hx hb hts iwX6 tyX6 tyX6_ok nmX6 hown hK.1 hS (Or.inl rfl) ho rfl 2 (by decide) (hts _ fl_X6_20) (fun _ h9 => h9) rfl hin rfl (by decide +kernel) rfl rfl (Nat.le_of_ble_eq_true rfl) dX6_init_29 (fun H locs ho z1 oq hS => ?_)
  have ho : va_at D vwCl (a, .inr (6, [.int 0, .ref s.heap.size, .ref (s.heap.size + 2), .null, .null])) H := ho
  have h0 := h0.kept (oq _ (by omega)) (oq _ (by omega))
  have h1 := h1.kept (oq _ (by omega)) (oq _ (by omega))
  have hz : H.size = s.heap.size + 4 := by omega
  refine lv_aload_n hx hb dX6_init_32 rfl (lv_at hl 0 rfl) ?_
  refine gk_new (fs := [.null]) hx hb hts iwX2 tyX2 tyX2_ok hown (hts _ cl_X6_9) (hts _ it_X2) (hts _ in_X2) hK.1 hS (ci := 2) rfl df_X2 ⟨Nat.le_of_ble_eq_true rfl, Nat.le_of_ble_eq_true rfl⟩ dX6_init_33 (fun q H hn q1 z1 hk hS => ?_)
  obtain rfl : q = (s.heap.size + 4) := by omega
  have h0 := h0.kept (hk _ (by omega)) (hk _ (by omega))
  have h1 := h1.kept (hk _ (by omega)) (hk _ (by omega))
  have ho := ho.kept (hk _ (by omega))
  have hz : H.size = s.heap.size + 5 := by omega
  refine lv_dup hx hb dX6_init_36 rfl ?_
  refine lv_bipush (v := 12) hx hb dX6_init_37 (by decide) ?_
  refine lv_iconst (v := 0) hx hb dX6_init_39 (by decide) ?_
  have hzb := hz
  refine gk_ctor ⟨hx, hb, hml, hown, hts⟩ (c_X2_init l D cI cZ cG cL (n := 12) (N' := 12) (c9 := 0) (by decide) (by decide) (by decide)) (cwI 2 hts (gk_gI co_X2_init) rfl rfl rfl (hts _ in_X2) (hts _ ml_X6_11) (hts _ im_X2_init) rfl (by decide +kernel) ⟨Nat.le_of_ble_eq_true rfl, Nat.le_of_ble_eq_true rfl⟩) hn hK hS (Or.inr (by omega)) (fun q h => Or.inr h) rfl hl.1 (As := [.int 12, .int 0]) (rest := [.ref (s.heap.size + 4), .ref a]) rfl (lv_room (Nat.le_of_ble_eq_true rfl)) dX6_init_40 ⟨Nat.le_of_ble_eq_true rfl, Nat.le_of_ble_eq_true rfl⟩ (fun H locs z1 hP hk hS => ?_)
  rw [hzb] at hP
  have h0 := h0.kept (hk _ (by omega) (by omega)) (hk _ (by omega) (by omega))
  have h1 := h1.kept (hk _ (by omega) (by omega)) (hk _ (by omega) (by omega))
  have ho := ho.kept (hk _ (by omega) (by omega))
  have h2 := hP
  have hz : H.size = s.heap.size + 6 := by omega
  refine gk_putF (ty := .object "PolicyGate$Row") (v := .ref (s.heap.size + 4)) hx hb hts iwX6 tyX6 tyX6_ok nmX6 hown hK.1 hS (Or.inl rfl) ho rfl 3 (by decide) (hts _ fl_X6_23) (fun _ h9 => h9) rfl hin rfl (by decide +kernel) rfl rfl (Nat.le_of_ble_eq_true rfl) dX6_init_43 (fun H locs ho z1 oq hS => ?_)
  have ho : va_at D vwCl (a, .inr (6, [.int 0, .ref s.heap.size, .ref (s.heap.size + 2), .ref (s.heap.size + 4), .null])) H := ho
  have h0 := h0.kept (oq _ (by omega)) (oq _ (by omega))
  have h1 := h1.kept (oq _ (by omega)) (oq _ (by omega))
  have h2 := h2.kept (oq _ (by omega)) (oq _ (by omega))
  have hz : H.size = s.heap.size + 6 := by omega
  refine lv_aload_n hx hb dX6_init_46 rfl (lv_at hl 0 rfl) ?_
  refine gk_new (fs := [.null]) hx hb hts iwX2 tyX2 tyX2_ok hown (hts _ cl_X6_9) (hts _ it_X2) (hts _ in_X2) hK.1 hS (ci := 2) rfl df_X2 ⟨Nat.le_of_ble_eq_true rfl, Nat.le_of_ble_eq_true rfl⟩ dX6_init_47 (fun q H hn q1 z1 hk hS => ?_)
  obtain rfl : q = (s.heap.size + 6) := by omega
  have h0 := h0.kept (hk _ (by omega)) (hk _ (by omega))
  have h1 := h1.kept (hk _ (by omega)) (hk _ (by omega))
  have h2 := h2.kept (hk _ (by omega)) (hk _ (by omega))
  have ho := ho.kept (hk _ (by omega))
  have hz : H.size = s.heap.size + 7 := by omega
  refine lv_dup hx hb dX6_init_50 rfl ?_
  refine lv_sipush (v := 288) hx hb dX6_init_51 (by decide) ?_
  refine lv_iconst (v := 0) hx hb dX6_init_54 (by decide) ?_
  have hzb := hz
  refine gk_ctor ⟨hx, hb, hml, hown, hts⟩ (c_X2_init l D cI cZ cG cL (n := 288) (N' := 288) (c9 := 0) (by decide) (by decide) (by decide)) (cwI 2 hts (gk_gI co_X2_init) rfl rfl rfl (hts _ in_X2) (hts _ ml_X6_11) (hts _ im_X2_init) rfl (by decide +kernel) ⟨Nat.le_of_ble_eq_true rfl, Nat.le_of_ble_eq_true rfl⟩) hn hK hS (Or.inr (by omega)) (fun q h => Or.inr h) rfl hl.1 (As := [.int 288, .int 0]) (rest := [.ref (s.heap.size + 6), .ref a]) rfl (lv_room (Nat.le_of_ble_eq_true rfl)) dX6_init_55 ⟨Nat.le_of_ble_eq_true rfl, Nat.le_of_ble_eq_true rfl⟩ (fun H locs z1 hP hk hS => ?_)
  rw [hzb] at hP
  have h0 := h0.kept (hk _ (by omega) (by omega)) (hk _ (by omega) (by omega))
  have h1 := h1.kept (hk _ (by omega) (by omega)) (hk _ (by omega) (by omega))
  have h2 := h2.kept (hk _ (by omega) (by omega)) (hk _ (by omega) (by omega))
  have ho := ho.kept (hk _ (by omega) (by omega))
  have h3 := hP
  have hz : H.size = s.heap.size + 8 := by omega
  refine gk_putF (ty := .object "PolicyGate$Row") (v := .ref (s.heap.size + 6)) hx hb hts iwX6 tyX6 tyX6_ok nmX6 hown hK.1 hS (Or.inl rfl) ho rfl 4 (by decide) (hts _ fl_X6_26) (fun _ h9 => h9) rfl hin rfl (by decide +kernel) rfl rfl (Nat.le_of_ble_eq_true rfl) dX6_init_58 (fun H locs ho z1 oq hS => ?_)
  have ho : va_at D vwCl (a, .inr (6, [.int 0, .ref s.heap.size, .ref (s.heap.size + 2), .ref (s.heap.size + 4), .ref (s.heap.size + 6)])) H := ho
  have h0 := h0.kept (oq _ (by omega)) (oq _ (by omega))
  have h1 := h1.kept (oq _ (by omega)) (oq _ (by omega))
  have h2 := h2.kept (oq _ (by omega)) (oq _ (by omega))
  have h3 := h3.kept (oq _ (by omega)) (oq _ (by omega))
  have hz : H.size = s.heap.size + 8 := by omega
  exact W.vret hx hb hr (fun t ht _ => ⟨⟨(), rfl, trivial, by rw [ht]; exact hz, by show gk_i6 D cI _ _ t.heap; rw [ht]; exact ⟨ho, h0, h1, h2, h3⟩⟩, hS.F ht⟩) hS.2.2 dX6_init_61 (hlocks := hlocks)
def gk_i1 (D : va_G) (cI : ClassId) (a q : Nat) (H : Heap) : Prop := va_at D vwCl (a, .inr (1, [.int 0, .int 0, .ref q, .ref (q + 2)])) H ∧ gk_rw D cI q (q + 1) 12 0 H ∧ gk_rw D cI (q + 2) (q + 3) 12 0 H
theorem gk_i1.kept {D : va_G} {cI : ClassId} {a q : Nat} {H H1 : Heap} (h : gk_i1 D cI a q H) (hq : ∀ z : Nat, z = a ∨ (q ≤ z ∧ z < q + 4) → H1[z]? = H[z]?) : gk_i1 D cI a q H1 := by
  obtain ⟨ho, h0, h1⟩ := h
  exact ⟨ho.kept (hq _ (Or.inl rfl)), h0.kept (hq _ (Or.inr ⟨by omega, by omega⟩)) (hq _ (Or.inr ⟨by omega, by omega⟩)), h1.kept (hq _ (Or.inr ⟨by omega, by omega⟩)) (hq _ (Or.inr ⟨by omega, by omega⟩))⟩
abbrev rmX1_init : Room := { frames := 2, cells := 4, slots := 26, locals := 45 }
set_option maxHeartbeats 4000000 in
set_option maxRecDepth 100000 in
theorem c_X1_init (l : Launch) (D : va_G) (cI cZ cG cL : ClassId) {a sz : Nat} : Met l yX1_init wsX1_init rmX1_init (gk_Pi D cI cZ cG cL [.ref a] a (.inr (1, [.int 0, .int 0, .null, .null])) sz) (gk_Qc (gk_i1 D cI a sz) a sz 4) 4 26 (gk_cA a sz) := by
  refine Met.ofW (cc := cX1_init) (maxL := 1) (ret := none) (by decide) rfl ?_
  intro p e s m args below meth c s₁ B hml0 hv0
  obtain ⟨rfl, hsz, ho, hK⟩ := hv0
  subst hsz
  have C0 : gk_F p s m ([.ref a] : List Value).toArray meth c cX1_init 1 none RX1 := ⟨B.exec, B.bytes, hml0, findClass_of_methodNamed B.named, fun w hw => atoms_spec (ws := wsX1_init) B.pre w (List.mem_cons_of_mem _ hw), B.returns, B.notSynchronized⟩
  obtain ⟨hx, hb, hml, hown, hts, hr, hlocks⟩ := id C0
  have hin : meth.name = "<init>" := (name_of_methodNamed B.named B.method).1
  have ha0 : a < s.heap.size := ho.lt
  have hS : va_S (gk_cA a s.heap.size) s.heap s.heap [] := va_S.rf
  have hz : s.heap.size = s.heap.size + 0 := rfl
  have hl := lv_entry ([.ref a]) (n := 1) (Nat.le_of_ble_eq_true rfl)
  rw [lg_entry_eq]
  generalize (lg_sl ([.ref a]) ++ List.replicate (1 - (lg_sl ([.ref a])).length) Slot.unset).toArray = ls at hl ⊢
  have hl : lv_has ls 1 [(0, .ref a)] := hl
  show W p l e rmX1_init s m _ below meth c s.heap [] 0 0 _ _
  refine lv_aload_n hx hb dX1_init_0 rfl (lv_at hl 0 rfl) ?_
  refine W.objInit hx hb hown (hts _ oi_X1) (hts _ gk_oi1) (hts _ gk_oi2) rfl (by rw [hml]; exact hl.1) rfl dX1_init_1 (Nat.le_of_ble_eq_true rfl) (Nat.le_of_ble_eq_true rfl) ?_
  refine W.eq (g2 := F0 m 4 ls []) rfl ?_
  refine lv_aload_n hx hb dX1_init_4 rfl (lv_at hl 0 rfl) ?_
  refine gk_new (fs := [.null]) hx hb hts iwX2 tyX2 tyX2_ok hown (hts _ cl_X1_9) (hts _ it_X2) (hts _ in_X2) hK.1 hS (ci := 2) rfl df_X2 ⟨Nat.le_of_ble_eq_true rfl, Nat.le_of_ble_eq_true rfl⟩ dX1_init_5 (fun q H hn q1 z1 hk hS => ?_)
  obtain rfl : q = s.heap.size := by omega
  have ho := ho.kept (hk _ (by omega))
  have hz : H.size = s.heap.size + 1 := by omega
  refine lv_dup hx hb dX1_init_8 rfl ?_
  refine lv_bipush (v := 12) hx hb dX1_init_9 (by decide) ?_
  refine lv_iconst (v := 0) hx hb dX1_init_11 (by decide) ?_
  have hzb := hz
  refine gk_ctor ⟨hx, hb, hml, hown, hts⟩ (c_X2_init l D cI cZ cG cL (n := 12) (N' := 12) (c9 := 0) (by decide) (by decide) (by decide)) (cwI 2 hts (gk_gI co_X2_init) rfl rfl rfl (hts _ in_X2) (hts _ ml_X1_11) (hts _ im_X2_init) rfl (by decide +kernel) ⟨Nat.le_of_ble_eq_true rfl, Nat.le_of_ble_eq_true rfl⟩) hn hK hS (Or.inr (by omega)) (fun q h => Or.inr h) rfl hl.1 (As := [.int 12, .int 0]) (rest := [.ref s.heap.size, .ref a]) rfl (lv_room (Nat.le_of_ble_eq_true rfl)) dX1_init_12 ⟨Nat.le_of_ble_eq_true rfl, Nat.le_of_ble_eq_true rfl⟩ (fun H locs z1 hP hk hS => ?_)
  rw [hzb] at hP
  have ho := ho.kept (hk _ (by omega) (by omega))
  have h0 := hP
  have hz : H.size = s.heap.size + 2 := by omega
  refine gk_putF (ty := .object "PolicyGate$Row") (v := .ref s.heap.size) hx hb hts iwX1 tyX1 tyX1_ok nmX1 hown hK.1 hS (Or.inl rfl) ho rfl 2 (by decide) (hts _ fl_X1_14) (fun _ h9 => h9) rfl hin rfl (by decide +kernel) rfl rfl (Nat.le_of_ble_eq_true rfl) dX1_init_15 (fun H locs ho z1 oq hS => ?_)
  have ho : va_at D vwCl (a, .inr (1, [.int 0, .int 0, .ref s.heap.size, .null])) H := ho
  have h0 := h0.kept (oq _ (by omega)) (oq _ (by omega))
  have hz : H.size = s.heap.size + 2 := by omega
  refine lv_aload_n hx hb dX1_init_18 rfl (lv_at hl 0 rfl) ?_
  refine gk_new (fs := [.null]) hx hb hts iwX2 tyX2 tyX2_ok hown (hts _ cl_X1_9) (hts _ it_X2) (hts _ in_X2) hK.1 hS (ci := 2) rfl df_X2 ⟨Nat.le_of_ble_eq_true rfl, Nat.le_of_ble_eq_true rfl⟩ dX1_init_19 (fun q H hn q1 z1 hk hS => ?_)
  obtain rfl : q = (s.heap.size + 2) := by omega
  have h0 := h0.kept (hk _ (by omega)) (hk _ (by omega))
  have ho := ho.kept (hk _ (by omega))
  have hz : H.size = s.heap.size + 3 := by omega
  refine lv_dup hx hb dX1_init_22 rfl ?_
  refine lv_bipush (v := 12) hx hb dX1_init_23 (by decide) ?_
  refine lv_iconst (v := 0) hx hb dX1_init_25 (by decide) ?_
  have hzb := hz
  refine gk_ctor ⟨hx, hb, hml, hown, hts⟩ (c_X2_init l D cI cZ cG cL (n := 12) (N' := 12) (c9 := 0) (by decide) (by decide) (by decide)) (cwI 2 hts (gk_gI co_X2_init) rfl rfl rfl (hts _ in_X2) (hts _ ml_X1_11) (hts _ im_X2_init) rfl (by decide +kernel) ⟨Nat.le_of_ble_eq_true rfl, Nat.le_of_ble_eq_true rfl⟩) hn hK hS (Or.inr (by omega)) (fun q h => Or.inr h) rfl hl.1 (As := [.int 12, .int 0]) (rest := [.ref (s.heap.size + 2), .ref a]) rfl (lv_room (Nat.le_of_ble_eq_true rfl)) dX1_init_26 ⟨Nat.le_of_ble_eq_true rfl, Nat.le_of_ble_eq_true rfl⟩ (fun H locs z1 hP hk hS => ?_)
  rw [hzb] at hP
  have h0 := h0.kept (hk _ (by omega) (by omega)) (hk _ (by omega) (by omega))
  have ho := ho.kept (hk _ (by omega) (by omega))
  have h1 := hP
  have hz : H.size = s.heap.size + 4 := by omega
  refine gk_putF (ty := .object "PolicyGate$Row") (v := .ref (s.heap.size + 2)) hx hb hts iwX1 tyX1 tyX1_ok nmX1 hown hK.1 hS (Or.inl rfl) ho rfl 3 (by decide) (hts _ fl_X1_20) (fun _ h9 => h9) rfl hin rfl (by decide +kernel) rfl rfl (Nat.le_of_ble_eq_true rfl) dX1_init_29 (fun H locs ho z1 oq hS => ?_)
  have ho : va_at D vwCl (a, .inr (1, [.int 0, .int 0, .ref s.heap.size, .ref (s.heap.size + 2)])) H := ho
  have h0 := h0.kept (oq _ (by omega)) (oq _ (by omega))
  have h1 := h1.kept (oq _ (by omega)) (oq _ (by omega))
  have hz : H.size = s.heap.size + 4 := by omega
  exact W.vret hx hb hr (fun t ht _ => ⟨⟨(), rfl, trivial, by rw [ht]; exact hz, by show gk_i1 D cI _ _ t.heap; rw [ht]; exact ⟨ho, h0, h1⟩⟩, hS.F ht⟩) hS.2.2 dX1_init_32 (hlocks := hlocks)
def gk_i5 (D : va_G) (cI : ClassId) (a q : Nat) (H : Heap) : Prop := va_at D vwCl (a, .inr (5, [.int 1, .ref q, .ref (q + 2), .ref (q + 4), .ref (q + 6), .ref (q + 8)])) H ∧ gk_rw D cI q (q + 1) 24 0 H ∧ gk_rw D cI (q + 2) (q + 3) 24 0 H ∧ gk_rw D cI (q + 4) (q + 5) 24 0 H ∧ gk_rw D cI (q + 6) (q + 7) 24 (-1) H ∧ gk_rw D cI (q + 8) (q + 9) 24 0 H
theorem gk_i5.kept {D : va_G} {cI : ClassId} {a q : Nat} {H H1 : Heap} (h : gk_i5 D cI a q H) (hq : ∀ z : Nat, z = a ∨ (q ≤ z ∧ z < q + 10) → H1[z]? = H[z]?) : gk_i5 D cI a q H1 := by
  obtain ⟨ho, h0, h1, h2, h3, h4⟩ := h
  exact ⟨ho.kept (hq _ (Or.inl rfl)), h0.kept (hq _ (Or.inr ⟨by omega, by omega⟩)) (hq _ (Or.inr ⟨by omega, by omega⟩)), h1.kept (hq _ (Or.inr ⟨by omega, by omega⟩)) (hq _ (Or.inr ⟨by omega, by omega⟩)), h2.kept (hq _ (Or.inr ⟨by omega, by omega⟩)) (hq _ (Or.inr ⟨by omega, by omega⟩)), h3.kept (hq _ (Or.inr ⟨by omega, by omega⟩)) (hq _ (Or.inr ⟨by omega, by omega⟩)), h4.kept (hq _ (Or.inr ⟨by omega, by omega⟩)) (hq _ (Or.inr ⟨by omega, by omega⟩))⟩
abbrev rmX5_init : Room := { frames := 2, cells := 10, slots := 125, locals := 45 }
set_option maxHeartbeats 4000000 in
set_option maxRecDepth 100000 in
theorem c_X5_init (l : Launch) (D : va_G) (cI cZ cG cL : ClassId) {a sz : Nat} : Met l yX5_init wsX5_init rmX5_init (gk_Pi D cI cZ cG cL [.ref a] a (.inr (5, [.int 0, .null, .null, .null, .null, .null])) sz) (gk_Qc (gk_i5 D cI a sz) a sz 10) 10 125 (gk_cA a sz) := by
  refine Met.ofW (cc := cX5_init) (maxL := 1) (ret := none) (by decide) rfl ?_
  intro p e s m args below meth c s₁ B hml0 hv0
  obtain ⟨rfl, hsz, ho, hK⟩ := hv0
  subst hsz
  have C0 : gk_F p s m ([.ref a] : List Value).toArray meth c cX5_init 1 none RX5 := ⟨B.exec, B.bytes, hml0, findClass_of_methodNamed B.named, fun w hw => atoms_spec (ws := wsX5_init) B.pre w (List.mem_cons_of_mem _ hw), B.returns, B.notSynchronized⟩
  obtain ⟨hx, hb, hml, hown, hts, hr, hlocks⟩ := id C0
  have hin : meth.name = "<init>" := (name_of_methodNamed B.named B.method).1
  have ha0 : a < s.heap.size := ho.lt
  have hS : va_S (gk_cA a s.heap.size) s.heap s.heap [] := va_S.rf
  have hz : s.heap.size = s.heap.size + 0 := rfl
  have hl := lv_entry ([.ref a]) (n := 1) (Nat.le_of_ble_eq_true rfl)
  rw [lg_entry_eq]
  generalize (lg_sl ([.ref a]) ++ List.replicate (1 - (lg_sl ([.ref a])).length) Slot.unset).toArray = ls at hl ⊢
  have hl : lv_has ls 1 [(0, .ref a)] := hl
  show W p l e rmX5_init s m _ below meth c s.heap [] 0 0 _ _
  refine lv_aload_n hx hb dX5_init_0 rfl (lv_at hl 0 rfl) ?_
  refine W.objInit hx hb hown (hts _ oi_X5) (hts _ gk_oi1) (hts _ gk_oi2) rfl (by rw [hml]; exact hl.1) rfl dX5_init_1 (Nat.le_of_ble_eq_true rfl) (Nat.le_of_ble_eq_true rfl) ?_
  refine W.eq (g2 := F0 m 4 ls []) rfl ?_
  refine lv_aload_n hx hb dX5_init_4 rfl (lv_at hl 0 rfl) ?_
  refine lv_iconst (v := 1) hx hb dX5_init_5 (by decide) ?_
  refine gk_putf (ty := .int) (v := .int 1) hx hb hts iwX5 tyX5 tyX5_ok nmX5 hown hK.1 hS (Or.inl rfl) ho rfl 0 (by decide) (hts _ fl_X5_9) (fun _ h9 => h9) rfl (by decide +kernel) rfl rfl (Nat.le_of_ble_eq_true rfl) dX5_init_6 (fun H locs ho z1 oq hS => ?_)
  have ho : va_at D vwCl (a, .inr (5, [.int 1, .null, .null, .null, .null, .null])) H := ho
  have hz : H.size = s.heap.size + 0 := by omega
  refine lv_aload_n hx hb dX5_init_9 rfl (lv_at hl 0 rfl) ?_
  refine gk_new (fs := [.null]) hx hb hts iwX2 tyX2 tyX2_ok hown (hts _ cl_X5_15) (hts _ it_X2) (hts _ in_X2) hK.1 hS (ci := 2) rfl df_X2 ⟨Nat.le_of_ble_eq_true rfl, Nat.le_of_ble_eq_true rfl⟩ dX5_init_10 (fun q H hn q1 z1 hk hS => ?_)
  obtain rfl : q = s.heap.size := by omega
  have ho := ho.kept (hk _ (by omega))
  have hz : H.size = s.heap.size + 1 := by omega
  refine lv_dup hx hb dX5_init_13 rfl ?_
  refine lv_bipush (v := 24) hx hb dX5_init_14 (by decide) ?_
  refine lv_iconst (v := 0) hx hb dX5_init_16 (by decide) ?_
  have hzb := hz
  refine gk_ctor ⟨hx, hb, hml, hown, hts⟩ (c_X2_init l D cI cZ cG cL (n := 24) (N' := 24) (c9 := 0) (by decide) (by decide) (by decide)) (cwI 2 hts (gk_gI co_X2_init) rfl rfl rfl (hts _ in_X2) (hts _ ml_X5_17) (hts _ im_X2_init) rfl (by decide +kernel) ⟨Nat.le_of_ble_eq_true rfl, Nat.le_of_ble_eq_true rfl⟩) hn hK hS (Or.inr (by omega)) (fun q h => Or.inr h) rfl hl.1 (As := [.int 24, .int 0]) (rest := [.ref s.heap.size, .ref a]) rfl (lv_room (Nat.le_of_ble_eq_true rfl)) dX5_init_17 ⟨Nat.le_of_ble_eq_true rfl, Nat.le_of_ble_eq_true rfl⟩ (fun H locs z1 hP hk hS => ?_)
  rw [hzb] at hP
  have ho := ho.kept (hk _ (by omega) (by omega))
  have h0 := hP
  have hz : H.size = s.heap.size + 2 := by omega
  refine gk_putF (ty := .object "PolicyGate$Row") (v := .ref s.heap.size) hx hb hts iwX5 tyX5 tyX5_ok nmX5 hown hK.1 hS (Or.inl rfl) ho rfl 1 (by decide) (hts _ fl_X5_20) (fun _ h9 => h9) rfl hin rfl (by decide +kernel) rfl rfl (Nat.le_of_ble_eq_true rfl) dX5_init_20 (fun H locs ho z1 oq hS => ?_)
  have ho : va_at D vwCl (a, .inr (5, [.int 1, .ref s.heap.size, .null, .null, .null, .null])) H := ho
  have h0 := h0.kept (oq _ (by omega)) (oq _ (by omega))
  have hz : H.size = s.heap.size + 2 := by omega
  refine lv_aload_n hx hb dX5_init_23 rfl (lv_at hl 0 rfl) ?_
  refine gk_new (fs := [.null]) hx hb hts iwX2 tyX2 tyX2_ok hown (hts _ cl_X5_15) (hts _ it_X2) (hts _ in_X2) hK.1 hS (ci := 2) rfl df_X2 ⟨Nat.le_of_ble_eq_true rfl, Nat.le_of_ble_eq_true rfl⟩ dX5_init_24 (fun q H hn q1 z1 hk hS => ?_)
  obtain rfl : q = (s.heap.size + 2) := by omega
  have h0 := h0.kept (hk _ (by omega)) (hk _ (by omega))
  have ho := ho.kept (hk _ (by omega))
  have hz : H.size = s.heap.size + 3 := by omega
  refine lv_dup hx hb dX5_init_27 rfl ?_
  refine lv_bipush (v := 24) hx hb dX5_init_28 (by decide) ?_
  refine lv_iconst (v := 0) hx hb dX5_init_30 (by decide) ?_
  have hzb := hz
  refine gk_ctor ⟨hx, hb, hml, hown, hts⟩ (c_X2_init l D cI cZ cG cL (n := 24) (N' := 24) (c9 := 0) (by decide) (by decide) (by decide)) (cwI 2 hts (gk_gI co_X2_init) rfl rfl rfl (hts _ in_X2) (hts _ ml_X5_17) (hts _ im_X2_init) rfl (by decide +kernel) ⟨Nat.le_of_ble_eq_true rfl, Nat.le_of_ble_eq_true rfl⟩) hn hK hS (Or.inr (by omega)) (fun q h => Or.inr h) rfl hl.1 (As := [.int 24, .int 0]) (rest := [.ref (s.heap.size + 2), .ref a]) rfl (lv_room (Nat.le_of_ble_eq_true rfl)) dX5_init_31 ⟨Nat.le_of_ble_eq_true rfl, Nat.le_of_ble_eq_true rfl⟩ (fun H locs z1 hP hk hS => ?_)
  rw [hzb] at hP
  have h0 := h0.kept (hk _ (by omega) (by omega)) (hk _ (by omega) (by omega))
  have ho := ho.kept (hk _ (by omega) (by omega))
  have h1 := hP
  have hz : H.size = s.heap.size + 4 := by omega
  refine gk_putF (ty := .object "PolicyGate$Row") (v := .ref (s.heap.size + 2)) hx hb hts iwX5 tyX5 tyX5_ok nmX5 hown hK.1 hS (Or.inl rfl) ho rfl 2 (by decide) (hts _ fl_X5_24) (fun _ h9 => h9) rfl hin rfl (by decide +kernel) rfl rfl (Nat.le_of_ble_eq_true rfl) dX5_init_34 (fun H locs ho z1 oq hS => ?_)
  have ho : va_at D vwCl (a, .inr (5, [.int 1, .ref s.heap.size, .ref (s.heap.size + 2), .null, .null, .null])) H := ho
  have h0 := h0.kept (oq _ (by omega)) (oq _ (by omega))
  have h1 := h1.kept (oq _ (by omega)) (oq _ (by omega))
  have hz : H.size = s.heap.size + 4 := by omega
  refine lv_aload_n hx hb dX5_init_37 rfl (lv_at hl 0 rfl) ?_
  refine gk_new (fs := [.null]) hx hb hts iwX2 tyX2 tyX2_ok hown (hts _ cl_X5_15) (hts _ it_X2) (hts _ in_X2) hK.1 hS (ci := 2) rfl df_X2 ⟨Nat.le_of_ble_eq_true rfl, Nat.le_of_ble_eq_true rfl⟩ dX5_init_38 (fun q H hn q1 z1 hk hS => ?_)
  obtain rfl : q = (s.heap.size + 4) := by omega
  have h0 := h0.kept (hk _ (by omega)) (hk _ (by omega))
  have h1 := h1.kept (hk _ (by omega)) (hk _ (by omega))
  have ho := ho.kept (hk _ (by omega))
  have hz : H.size = s.heap.size + 5 := by omega
  refine lv_dup hx hb dX5_init_41 rfl ?_
  refine lv_bipush (v := 24) hx hb dX5_init_42 (by decide) ?_
  refine lv_iconst (v := 0) hx hb dX5_init_44 (by decide) ?_
  have hzb := hz
  refine gk_ctor ⟨hx, hb, hml, hown, hts⟩ (c_X2_init l D cI cZ cG cL (n := 24) (N' := 24) (c9 := 0) (by decide) (by decide) (by decide)) (cwI 2 hts (gk_gI co_X2_init) rfl rfl rfl (hts _ in_X2) (hts _ ml_X5_17) (hts _ im_X2_init) rfl (by decide +kernel) ⟨Nat.le_of_ble_eq_true rfl, Nat.le_of_ble_eq_true rfl⟩) hn hK hS (Or.inr (by omega)) (fun q h => Or.inr h) rfl hl.1 (As := [.int 24, .int 0]) (rest := [.ref (s.heap.size + 4), .ref a]) rfl (lv_room (Nat.le_of_ble_eq_true rfl)) dX5_init_45 ⟨Nat.le_of_ble_eq_true rfl, Nat.le_of_ble_eq_true rfl⟩ (fun H locs z1 hP hk hS => ?_)
  rw [hzb] at hP
  have h0 := h0.kept (hk _ (by omega) (by omega)) (hk _ (by omega) (by omega))
  have h1 := h1.kept (hk _ (by omega) (by omega)) (hk _ (by omega) (by omega))
  have ho := ho.kept (hk _ (by omega) (by omega))
  have h2 := hP
  have hz : H.size = s.heap.size + 6 := by omega
  refine gk_putF (ty := .object "PolicyGate$Row") (v := .ref (s.heap.size + 4)) hx hb hts iwX5 tyX5 tyX5_ok nmX5 hown hK.1 hS (Or.inl rfl) ho rfl 3 (by decide) (hts _ fl_X5_27) (fun _ h9 => h9) rfl hin rfl (by decide +kernel) rfl rfl (Nat.le_of_ble_eq_true rfl) dX5_init_48 (fun H locs ho z1 oq hS => ?_)
  have ho : va_at D vwCl (a, .inr (5, [.int 1, .ref s.heap.size, .ref (s.heap.size + 2), .ref (s.heap.size + 4), .null, .null])) H := ho
  have h0 := h0.kept (oq _ (by omega)) (oq _ (by omega))
  have h1 := h1.kept (oq _ (by omega)) (oq _ (by omega))
  have h2 := h2.kept (oq _ (by omega)) (oq _ (by omega))
  have hz : H.size = s.heap.size + 6 := by omega
  refine lv_aload_n hx hb dX5_init_51 rfl (lv_at hl 0 rfl) ?_
  refine gk_new (fs := [.null]) hx hb hts iwX2 tyX2 tyX2_ok hown (hts _ cl_X5_15) (hts _ it_X2) (hts _ in_X2) hK.1 hS (ci := 2) rfl df_X2 ⟨Nat.le_of_ble_eq_true rfl, Nat.le_of_ble_eq_true rfl⟩ dX5_init_52 (fun q H hn q1 z1 hk hS => ?_)
  obtain rfl : q = (s.heap.size + 6) := by omega
  have h0 := h0.kept (hk _ (by omega)) (hk _ (by omega))
  have h1 := h1.kept (hk _ (by omega)) (hk _ (by omega))
  have h2 := h2.kept (hk _ (by omega)) (hk _ (by omega))
  have ho := ho.kept (hk _ (by omega))
  have hz : H.size = s.heap.size + 7 := by omega
  refine lv_dup hx hb dX5_init_55 rfl ?_
  refine lv_bipush (v := 24) hx hb dX5_init_56 (by decide) ?_
  refine lv_iconst (v := (-1)) hx hb dX5_init_58 (by decide) ?_
  have hzb := hz
  refine gk_ctor ⟨hx, hb, hml, hown, hts⟩ (c_X2_init l D cI cZ cG cL (n := 24) (N' := 24) (c9 := (-1)) (by decide) (by decide) (by decide)) (cwI 2 hts (gk_gI co_X2_init) rfl rfl rfl (hts _ in_X2) (hts _ ml_X5_17) (hts _ im_X2_init) rfl (by decide +kernel) ⟨Nat.le_of_ble_eq_true rfl, Nat.le_of_ble_eq_true rfl⟩) hn hK hS (Or.inr (by omega)) (fun q h => Or.inr h) rfl hl.1 (As := [.int 24, .int (-1)]) (rest := [.ref (s.heap.size + 6), .ref a]) rfl (lv_room (Nat.le_of_ble_eq_true rfl)) dX5_init_59 ⟨Nat.le_of_ble_eq_true rfl, Nat.le_of_ble_eq_true rfl⟩ (fun H locs z1 hP hk hS => ?_)
  rw [hzb] at hP
  have h0 := h0.kept (hk _ (by omega) (by omega)) (hk _ (by omega) (by omega))
  have h1 := h1.kept (hk _ (by omega) (by omega)) (hk _ (by omega) (by omega))
  have h2 := h2.kept (hk _ (by omega) (by omega)) (hk _ (by omega) (by omega))
  have ho := ho.kept (hk _ (by omega) (by omega))
  have h3 := hP
  have hz : H.size = s.heap.size + 8 := by omega
  refine gk_putF (ty := .object "PolicyGate$Row") (v := .ref (s.heap.size + 6)) hx hb hts iwX5 tyX5 tyX5_ok nmX5 hown hK.1 hS (Or.inl rfl) ho rfl 4 (by decide) (hts _ fl_X5_30) (fun _ h9 => h9) rfl hin rfl (by decide +kernel) rfl rfl (Nat.le_of_ble_eq_true rfl) dX5_init_62 (fun H locs ho z1 oq hS => ?_)
  have ho : va_at D vwCl (a, .inr (5, [.int 1, .ref s.heap.size, .ref (s.heap.size + 2), .ref (s.heap.size + 4), .ref (s.heap.size + 6), .null])) H := ho
  have h0 := h0.kept (oq _ (by omega)) (oq _ (by omega))
  have h1 := h1.kept (oq _ (by omega)) (oq _ (by omega))
  have h2 := h2.kept (oq _ (by omega)) (oq _ (by omega))
  have h3 := h3.kept (oq _ (by omega)) (oq _ (by omega))
  have hz : H.size = s.heap.size + 8 := by omega
  refine lv_aload_n hx hb dX5_init_65 rfl (lv_at hl 0 rfl) ?_
  refine gk_new (fs := [.null]) hx hb hts iwX2 tyX2 tyX2_ok hown (hts _ cl_X5_15) (hts _ it_X2) (hts _ in_X2) hK.1 hS (ci := 2) rfl df_X2 ⟨Nat.le_of_ble_eq_true rfl, Nat.le_of_ble_eq_true rfl⟩ dX5_init_66 (fun q H hn q1 z1 hk hS => ?_)
  obtain rfl : q = (s.heap.size + 8) := by omega
  have h0 := h0.kept (hk _ (by omega)) (hk _ (by omega))
  have h1 := h1.kept (hk _ (by omega)) (hk _ (by omega))
  have h2 := h2.kept (hk _ (by omega)) (hk _ (by omega))
  have h3 := h3.kept (hk _ (by omega)) (hk _ (by omega))
  have ho := ho.kept (hk _ (by omega))
  have hz : H.size = s.heap.size + 9 := by omega
  refine lv_dup hx hb dX5_init_69 rfl ?_
  refine lv_bipush (v := 24) hx hb dX5_init_70 (by decide) ?_
  refine lv_iconst (v := 0) hx hb dX5_init_72 (by decide) ?_
  have hzb := hz
  refine gk_ctor ⟨hx, hb, hml, hown, hts⟩ (c_X2_init l D cI cZ cG cL (n := 24) (N' := 24) (c9 := 0) (by decide) (by decide) (by decide)) (cwI 2 hts (gk_gI co_X2_init) rfl rfl rfl (hts _ in_X2) (hts _ ml_X5_17) (hts _ im_X2_init) rfl (by decide +kernel) ⟨Nat.le_of_ble_eq_true rfl, Nat.le_of_ble_eq_true rfl⟩) hn hK hS (Or.inr (by omega)) (fun q h => Or.inr h) rfl hl.1 (As := [.int 24, .int 0]) (rest := [.ref (s.heap.size + 8), .ref a]) rfl (lv_room (Nat.le_of_ble_eq_true rfl)) dX5_init_73 ⟨Nat.le_of_ble_eq_true rfl, Nat.le_of_ble_eq_true rfl⟩ (fun H locs z1 hP hk hS => ?_)
  rw [hzb] at hP
  have h0 := h0.kept (hk _ (by omega) (by omega)) (hk _ (by omega) (by omega))
  have h1 := h1.kept (hk _ (by omega) (by omega)) (hk _ (by omega) (by omega))
  have h2 := h2.kept (hk _ (by omega) (by omega)) (hk _ (by omega) (by omega))
  have h3 := h3.kept (hk _ (by omega) (by omega)) (hk _ (by omega) (by omega))
  have ho := ho.kept (hk _ (by omega) (by omega))
  have h4 := hP
  have hz : H.size = s.heap.size + 10 := by omega
  refine gk_putF (ty := .object "PolicyGate$Row") (v := .ref (s.heap.size + 8)) hx hb hts iwX5 tyX5 tyX5_ok nmX5 hown hK.1 hS (Or.inl rfl) ho rfl 5 (by decide) (hts _ fl_X5_33) (fun _ h9 => h9) rfl hin rfl (by decide +kernel) rfl rfl (Nat.le_of_ble_eq_true rfl) dX5_init_76 (fun H locs ho z1 oq hS => ?_)
  have ho : va_at D vwCl (a, .inr (5, [.int 1, .ref s.heap.size, .ref (s.heap.size + 2), .ref (s.heap.size + 4), .ref (s.heap.size + 6), .ref (s.heap.size + 8)])) H := ho
  have h0 := h0.kept (oq _ (by omega)) (oq _ (by omega))
  have h1 := h1.kept (oq _ (by omega)) (oq _ (by omega))
  have h2 := h2.kept (oq _ (by omega)) (oq _ (by omega))
  have h3 := h3.kept (oq _ (by omega)) (oq _ (by omega))
  have h4 := h4.kept (oq _ (by omega)) (oq _ (by omega))
  have hz : H.size = s.heap.size + 10 := by omega
  exact W.vret hx hb hr (fun t ht _ => ⟨⟨(), rfl, trivial, by rw [ht]; exact hz, by show gk_i5 D cI _ _ t.heap; rw [ht]; exact ⟨ho, h0, h1, h2, h3, h4⟩⟩, hS.F ht⟩) hS.2.2 dX5_init_79 (hlocks := hlocks)
def gk_i3 (D : va_G) (cI : ClassId) (a q : Nat) (H : Heap) : Prop := va_at D vwCl (a, .inr (3, [.int 0, .ref q, .ref (q + 2), .ref (q + 4), .ref (q + 6), .ref (q + 8), .ref (q + 10), .ref (q + 12), .ref (q + 14), .ref (q + 16)])) H ∧ gk_rw D cI q (q + 1) 30 0 H ∧ gk_rw D cI (q + 2) (q + 3) 30 0 H ∧ gk_rw D cI (q + 4) (q + 5) 30 0 H ∧ gk_rw D cI (q + 6) (q + 7) 30 0 H ∧ gk_rw D cI (q + 8) (q + 9) 30 0 H ∧ gk_rw D cI (q + 10) (q + 11) 30 0 H ∧ gk_rw D cI (q + 12) (q + 13) 30 0 H ∧ gk_rw D cI (q + 14) (q + 15) 30 0 H ∧ gk_rw D cI (q + 16) (q + 17) 30 0 H
theorem gk_i3.kept {D : va_G} {cI : ClassId} {a q : Nat} {H H1 : Heap} (h : gk_i3 D cI a q H) (hq : ∀ z : Nat, z = a ∨ (q ≤ z ∧ z < q + 18) → H1[z]? = H[z]?) : gk_i3 D cI a q H1 := by
  obtain ⟨ho, h0, h1, h2, h3, h4, h5, h6, h7, h8⟩ := h
  exact ⟨ho.kept (hq _ (Or.inl rfl)), h0.kept (hq _ (Or.inr ⟨by omega, by omega⟩)) (hq _ (Or.inr ⟨by omega, by omega⟩)), h1.kept (hq _ (Or.inr ⟨by omega, by omega⟩)) (hq _ (Or.inr ⟨by omega, by omega⟩)), h2.kept (hq _ (Or.inr ⟨by omega, by omega⟩)) (hq _ (Or.inr ⟨by omega, by omega⟩)), h3.kept (hq _ (Or.inr ⟨by omega, by omega⟩)) (hq _ (Or.inr ⟨by omega, by omega⟩)), h4.kept (hq _ (Or.inr ⟨by omega, by omega⟩)) (hq _ (Or.inr ⟨by omega, by omega⟩)), h5.kept (hq _ (Or.inr ⟨by omega, by omega⟩)) (hq _ (Or.inr ⟨by omega, by omega⟩)), h6.kept (hq _ (Or.inr ⟨by omega, by omega⟩)) (hq _ (Or.inr ⟨by omega, by omega⟩)), h7.kept (hq _ (Or.inr ⟨by omega, by omega⟩)) (hq _ (Or.inr ⟨by omega, by omega⟩)), h8.kept (hq _ (Or.inr ⟨by omega, by omega⟩)) (hq _ (Or.inr ⟨by omega, by omega⟩))⟩
abbrev rmX3_init : Room := { frames := 2, cells := 18, slots := 279, locals := 45 }
set_option maxHeartbeats 4000000 in
set_option maxRecDepth 100000 in
theorem c_X3_init (l : Launch) (D : va_G) (cI cZ cG cL : ClassId) {a sz : Nat} : Met l yX3_init wsX3_init rmX3_init (gk_Pi D cI cZ cG cL [.ref a] a (.inr (3, [.int 0, .null, .null, .null, .null, .null, .null, .null, .null, .null])) sz) (gk_Qc (gk_i3 D cI a sz) a sz 18) 18 279 (gk_cA a sz) := by
  refine Met.ofW (cc := cX3_init) (maxL := 1) (ret := none) (by decide) rfl ?_
  intro p e s m args below meth c s₁ B hml0 hv0
  obtain ⟨rfl, hsz, ho, hK⟩ := hv0
  subst hsz
  have C0 : gk_F p s m ([.ref a] : List Value).toArray meth c cX3_init 1 none RX3 := ⟨B.exec, B.bytes, hml0, findClass_of_methodNamed B.named, fun w hw => atoms_spec (ws := wsX3_init) B.pre w (List.mem_cons_of_mem _ hw), B.returns, B.notSynchronized⟩
  obtain ⟨hx, hb, hml, hown, hts, hr, hlocks⟩ := id C0
  have hin : meth.name = "<init>" := (name_of_methodNamed B.named B.method).1
  have ha0 : a < s.heap.size := ho.lt
  have hS : va_S (gk_cA a s.heap.size) s.heap s.heap [] := va_S.rf
  have hz : s.heap.size = s.heap.size + 0 := rfl
  have hl := lv_entry ([.ref a]) (n := 1) (Nat.le_of_ble_eq_true rfl)
  rw [lg_entry_eq]
  generalize (lg_sl ([.ref a]) ++ List.replicate (1 - (lg_sl ([.ref a])).length) Slot.unset).toArray = ls at hl ⊢
  have hl : lv_has ls 1 [(0, .ref a)] := hl
  show W p l e rmX3_init s m _ below meth c s.heap [] 0 0 _ _
  refine lv_aload_n hx hb dX3_init_0 rfl (lv_at hl 0 rfl) ?_
  refine W.objInit hx hb hown (hts _ oi_X3) (hts _ gk_oi1) (hts _ gk_oi2) rfl (by rw [hml]; exact hl.1) rfl dX3_init_1 (Nat.le_of_ble_eq_true rfl) (Nat.le_of_ble_eq_true rfl) ?_
  refine W.eq (g2 := F0 m 4 ls []) rfl ?_
  refine lv_aload_n hx hb dX3_init_4 rfl (lv_at hl 0 rfl) ?_
  refine gk_new (fs := [.null]) hx hb hts iwX2 tyX2 tyX2_ok hown (hts _ cl_X3_9) (hts _ it_X2) (hts _ in_X2) hK.1 hS (ci := 2) rfl df_X2 ⟨Nat.le_of_ble_eq_true rfl, Nat.le_of_ble_eq_true rfl⟩ dX3_init_5 (fun q H hn q1 z1 hk hS => ?_)
  obtain rfl : q = s.heap.size := by omega
  have ho := ho.kept (hk _ (by omega))
  have hz : H.size = s.heap.size + 1 := by omega
  refine lv_dup hx hb dX3_init_8 rfl ?_
  refine lv_bipush (v := 30) hx hb dX3_init_9 (by decide) ?_
  refine lv_iconst (v := 0) hx hb dX3_init_11 (by decide) ?_
  have hzb := hz
  refine gk_ctor ⟨hx, hb, hml, hown, hts⟩ (c_X2_init l D cI cZ cG cL (n := 30) (N' := 30) (c9 := 0) (by decide) (by decide) (by decide)) (cwI 2 hts (gk_gI co_X2_init) rfl rfl rfl (hts _ in_X2) (hts _ ml_X3_11) (hts _ im_X2_init) rfl (by decide +kernel) ⟨Nat.le_of_ble_eq_true rfl, Nat.le_of_ble_eq_true rfl⟩) hn hK hS (Or.inr (by omega)) (fun q h => Or.inr h) rfl hl.1 (As := [.int 30, .int 0]) (rest := [.ref s.heap.size, .ref a]) rfl (lv_room (Nat.le_of_ble_eq_true rfl)) dX3_init_12 ⟨Nat.le_of_ble_eq_true rfl, Nat.le_of_ble_eq_true rfl⟩ (fun H locs z1 hP hk hS => ?_)
  rw [hzb] at hP
  have ho := ho.kept (hk _ (by omega) (by omega))
  have h0 := hP
  have hz : H.size = s.heap.size + 2 := by omega
  refine gk_putF (ty := .object "PolicyGate$Row") (v := .ref s.heap.size) hx hb hts iwX3 tyX3 tyX3_ok nmX3 hown hK.1 hS (Or.inl rfl) ho rfl 1 (by decide) (hts _ fl_X3_14) (fun _ h9 => h9) rfl hin rfl (by decide +kernel) rfl rfl (Nat.le_of_ble_eq_true rfl) dX3_init_15 (fun H locs ho z1 oq hS => ?_)
  have ho : va_at D vwCl (a, .inr (3, [.int 0, .ref s.heap.size, .null, .null, .null, .null, .null, .null, .null, .null])) H := ho
  have h0 := h0.kept (oq _ (by omega)) (oq _ (by omega))
  have hz : H.size = s.heap.size + 2 := by omega
  refine lv_aload_n hx hb dX3_init_18 rfl (lv_at hl 0 rfl) ?_
  refine gk_new (fs := [.null]) hx hb hts iwX2 tyX2 tyX2_ok hown (hts _ cl_X3_9) (hts _ it_X2) (hts _ in_X2) hK.1 hS (ci := 2) rfl df_X2 ⟨Nat.le_of_ble_eq_true rfl, Nat.le_of_ble_eq_true rfl⟩ dX3_init_19 (fun q H hn q1 z1 hk hS => ?_)
  obtain rfl : q = (s.heap.size + 2) := by omega
  have h0 := h0.kept (hk _ (by omega)) (hk _ (by omega))
  have ho := ho.kept (hk _ (by omega))
  have hz : H.size = s.heap.size + 3 := by omega
  refine lv_dup hx hb dX3_init_22 rfl ?_
  refine lv_bipush (v := 30) hx hb dX3_init_23 (by decide) ?_
  refine lv_iconst (v := 0) hx hb dX3_init_25 (by decide) ?_
  have hzb := hz
  refine gk_ctor ⟨hx, hb, hml, hown, hts⟩ (c_X2_init l D cI cZ cG cL (n := 30) (N' := 30) (c9 := 0) (by decide) (by decide) (by decide)) (cwI 2 hts (gk_gI co_X2_init) rfl rfl rfl (hts _ in_X2) (hts _ ml_X3_11) (hts _ im_X2_init) rfl (by decide +kernel) ⟨Nat.le_of_ble_eq_true rfl, Nat.le_of_ble_eq_true rfl⟩) hn hK hS (Or.inr (by omega)) (fun q h => Or.inr h) rfl hl.1 (As := [.int 30, .int 0]) (rest := [.ref (s.heap.size + 2), .ref a]) rfl (lv_room (Nat.le_of_ble_eq_true rfl)) dX3_init_26 ⟨Nat.le_of_ble_eq_true rfl, Nat.le_of_ble_eq_true rfl⟩ (fun H locs z1 hP hk hS => ?_)
  rw [hzb] at hP
  have h0 := h0.kept (hk _ (by omega) (by omega)) (hk _ (by omega) (by omega))
  have ho := ho.kept (hk _ (by omega) (by omega))
  have h1 := hP
  have hz : H.size = s.heap.size + 4 := by omega
  refine gk_putF (ty := .object "PolicyGate$Row") (v := .ref (s.heap.size + 2)) hx hb hts iwX3 tyX3 tyX3_ok nmX3 hown hK.1 hS (Or.inl rfl) ho rfl 2 (by decide) (hts _ fl_X3_20) (fun _ h9 => h9) rfl hin rfl (by decide +kernel) rfl rfl (Nat.le_of_ble_eq_true rfl) dX3_init_29 (fun H locs ho z1 oq hS => ?_)
  have ho : va_at D vwCl (a, .inr (3, [.int 0, .ref s.heap.size, .ref (s.heap.size + 2), .null, .null, .null, .null, .null, .null, .null])) H := ho
  have h0 := h0.kept (oq _ (by omega)) (oq _ (by omega))
  have h1 := h1.kept (oq _ (by omega)) (oq _ (by omega))
  have hz : H.size = s.heap.size + 4 := by omega
  refine lv_aload_n hx hb dX3_init_32 rfl (lv_at hl 0 rfl) ?_
  refine gk_new (fs := [.null]) hx hb hts iwX2 tyX2 tyX2_ok hown (hts _ cl_X3_9) (hts _ it_X2) (hts _ in_X2) hK.1 hS (ci := 2) rfl df_X2 ⟨Nat.le_of_ble_eq_true rfl, Nat.le_of_ble_eq_true rfl⟩ dX3_init_33 (fun q H hn q1 z1 hk hS => ?_)
  obtain rfl : q = (s.heap.size + 4) := by omega
  have h0 := h0.kept (hk _ (by omega)) (hk _ (by omega))
  have h1 := h1.kept (hk _ (by omega)) (hk _ (by omega))
  have ho := ho.kept (hk _ (by omega))
  have hz : H.size = s.heap.size + 5 := by omega
  refine lv_dup hx hb dX3_init_36 rfl ?_
  refine lv_bipush (v := 30) hx hb dX3_init_37 (by decide) ?_
  refine lv_iconst (v := 0) hx hb dX3_init_39 (by decide) ?_
  have hzb := hz
  refine gk_ctor ⟨hx, hb, hml, hown, hts⟩ (c_X2_init l D cI cZ cG cL (n := 30) (N' := 30) (c9 := 0) (by decide) (by decide) (by decide)) (cwI 2 hts (gk_gI co_X2_init) rfl rfl rfl (hts _ in_X2) (hts _ ml_X3_11) (hts _ im_X2_init) rfl (by decide +kernel) ⟨Nat.le_of_ble_eq_true rfl, Nat.le_of_ble_eq_true rfl⟩) hn hK hS (Or.inr (by omega)) (fun q h => Or.inr h) rfl hl.1 (As := [.int 30, .int 0]) (rest := [.ref (s.heap.size + 4), .ref a]) rfl (lv_room (Nat.le_of_ble_eq_true rfl)) dX3_init_40 ⟨Nat.le_of_ble_eq_true rfl, Nat.le_of_ble_eq_true rfl⟩ (fun H locs z1 hP hk hS => ?_)
  rw [hzb] at hP
  have h0 := h0.kept (hk _ (by omega) (by omega)) (hk _ (by omega) (by omega))
  have h1 := h1.kept (hk _ (by omega) (by omega)) (hk _ (by omega) (by omega))
  have ho := ho.kept (hk _ (by omega) (by omega))
  have h2 := hP
  have hz : H.size = s.heap.size + 6 := by omega
  refine gk_putF (ty := .object "PolicyGate$Row") (v := .ref (s.heap.size + 4)) hx hb hts iwX3 tyX3 tyX3_ok nmX3 hown hK.1 hS (Or.inl rfl) ho rfl 3 (by decide) (hts _ fl_X3_23) (fun _ h9 => h9) rfl hin rfl (by decide +kernel) rfl rfl (Nat.le_of_ble_eq_true rfl) dX3_init_43 (fun H locs ho z1 oq hS => ?_)
  have ho : va_at D vwCl (a, .inr (3, [.int 0, .ref s.heap.size, .ref (s.heap.size + 2), .ref (s.heap.size + 4), .null, .null, .null, .null, .null, .null])) H := ho
  have h0 := h0.kept (oq _ (by omega)) (oq _ (by omega))
  have h1 := h1.kept (oq _ (by omega)) (oq _ (by omega))
  have h2 := h2.kept (oq _ (by omega)) (oq _ (by omega))
  have hz : H.size = s.heap.size + 6 := by omega
  refine lv_aload_n hx hb dX3_init_46 rfl (lv_at hl 0 rfl) ?_
  refine gk_new (fs := [.null]) hx hb hts iwX2 tyX2 tyX2_ok hown (hts _ cl_X3_9) (hts _ it_X2) (hts _ in_X2) hK.1 hS (ci := 2) rfl df_X2 ⟨Nat.le_of_ble_eq_true rfl, Nat.le_of_ble_eq_true rfl⟩ dX3_init_47 (fun q H hn q1 z1 hk hS => ?_)
  obtain rfl : q = (s.heap.size + 6) := by omega
  have h0 := h0.kept (hk _ (by omega)) (hk _ (by omega))
  have h1 := h1.kept (hk _ (by omega)) (hk _ (by omega))
  have h2 := h2.kept (hk _ (by omega)) (hk _ (by omega))
  have ho := ho.kept (hk _ (by omega))
  have hz : H.size = s.heap.size + 7 := by omega
  refine lv_dup hx hb dX3_init_50 rfl ?_
  refine lv_bipush (v := 30) hx hb dX3_init_51 (by decide) ?_
  refine lv_iconst (v := 0) hx hb dX3_init_53 (by decide) ?_
  have hzb := hz
  refine gk_ctor ⟨hx, hb, hml, hown, hts⟩ (c_X2_init l D cI cZ cG cL (n := 30) (N' := 30) (c9 := 0) (by decide) (by decide) (by decide)) (cwI 2 hts (gk_gI co_X2_init) rfl rfl rfl (hts _ in_X2) (hts _ ml_X3_11) (hts _ im_X2_init) rfl (by decide +kernel) ⟨Nat.le_of_ble_eq_true rfl, Nat.le_of_ble_eq_true rfl⟩) hn hK hS (Or.inr (by omega)) (fun q h => Or.inr h) rfl hl.1 (As := [.int 30, .int 0]) (rest := [.ref (s.heap.size + 6), .ref a]) rfl (lv_room (Nat.le_of_ble_eq_true rfl)) dX3_init_54 ⟨Nat.le_of_ble_eq_true rfl, Nat.le_of_ble_eq_true rfl⟩ (fun H locs z1 hP hk hS => ?_)
  rw [hzb] at hP
  have h0 := h0.kept (hk _ (by omega) (by omega)) (hk _ (by omega) (by omega))
  have h1 := h1.kept (hk _ (by omega) (by omega)) (hk _ (by omega) (by omega))
  have h2 := h2.kept (hk _ (by omega) (by omega)) (hk _ (by omega) (by omega))
  have ho := ho.kept (hk _ (by omega) (by omega))
  have h3 := hP
  have hz : H.size = s.heap.size + 8 := by omega
  refine gk_putF (ty := .object "PolicyGate$Row") (v := .ref (s.heap.size + 6)) hx hb hts iwX3 tyX3 tyX3_ok nmX3 hown hK.1 hS (Or.inl rfl) ho rfl 4 (by decide) (hts _ fl_X3_26) (fun _ h9 => h9) rfl hin rfl (by decide +kernel) rfl rfl (Nat.le_of_ble_eq_true rfl) dX3_init_57 (fun H locs ho z1 oq hS => ?_)
  have ho : va_at D vwCl (a, .inr (3, [.int 0, .ref s.heap.size, .ref (s.heap.size + 2), .ref (s.heap.size + 4), .ref (s.heap.size + 6), .null, .null, .null, .null, .null])) H := ho
  have h0 := h0.kept (oq _ (by omega)) (oq _ (by omega))
  have h1 := h1.kept (oq _ (by omega)) (oq _ (by omega))
  have h2 := h2.kept (oq _ (by omega)) (oq _ (by omega))
  have h3 := h3.kept (oq _ (by omega)) (oq _ (by omega))
  have hz : H.size = s.heap.size + 8 := by omega
  refine lv_aload_n hx hb dX3_init_60 rfl (lv_at hl 0 rfl) ?_
  refine gk_new (fs := [.null]) hx hb hts iwX2 tyX2 tyX2_ok hown (hts _ cl_X3_9) (hts _ it_X2) (hts _ in_X2) hK.1 hS (ci := 2) rfl df_X2 ⟨Nat.le_of_ble_eq_true rfl, Nat.le_of_ble_eq_true rfl⟩ dX3_init_61 (fun q H hn q1 z1 hk hS => ?_)
  obtain rfl : q = (s.heap.size + 8) := by omega
  have h0 := h0.kept (hk _ (by omega)) (hk _ (by omega))
  have h1 := h1.kept (hk _ (by omega)) (hk _ (by omega))
  have h2 := h2.kept (hk _ (by omega)) (hk _ (by omega))
  have h3 := h3.kept (hk _ (by omega)) (hk _ (by omega))
  have ho := ho.kept (hk _ (by omega))
  have hz : H.size = s.heap.size + 9 := by omega
  refine lv_dup hx hb dX3_init_64 rfl ?_
  refine lv_bipush (v := 30) hx hb dX3_init_65 (by decide) ?_
  refine lv_iconst (v := 0) hx hb dX3_init_67 (by decide) ?_
  have hzb := hz
  refine gk_ctor ⟨hx, hb, hml, hown, hts⟩ (c_X2_init l D cI cZ cG cL (n := 30) (N' := 30) (c9 := 0) (by decide) (by decide) (by decide)) (cwI 2 hts (gk_gI co_X2_init) rfl rfl rfl (hts _ in_X2) (hts _ ml_X3_11) (hts _ im_X2_init) rfl (by decide +kernel) ⟨Nat.le_of_ble_eq_true rfl, Nat.le_of_ble_eq_true rfl⟩) hn hK hS (Or.inr (by omega)) (fun q h => Or.inr h) rfl hl.1 (As := [.int 30, .int 0]) (rest := [.ref (s.heap.size + 8), .ref a]) rfl (lv_room (Nat.le_of_ble_eq_true rfl)) dX3_init_68 ⟨Nat.le_of_ble_eq_true rfl, Nat.le_of_ble_eq_true rfl⟩ (fun H locs z1 hP hk hS => ?_)
  rw [hzb] at hP
  have h0 := h0.kept (hk _ (by omega) (by omega)) (hk _ (by omega) (by omega))
  have h1 := h1.kept (hk _ (by omega) (by omega)) (hk _ (by omega) (by omega))
  have h2 := h2.kept (hk _ (by omega) (by omega)) (hk _ (by omega) (by omega))
  have h3 := h3.kept (hk _ (by omega) (by omega)) (hk _ (by omega) (by omega))
  have ho := ho.kept (hk _ (by omega) (by omega))
  have h4 := hP
  have hz : H.size = s.heap.size + 10 := by omega
  refine gk_putF (ty := .object "PolicyGate$Row") (v := .ref (s.heap.size + 8)) hx hb hts iwX3 tyX3 tyX3_ok nmX3 hown hK.1 hS (Or.inl rfl) ho rfl 5 (by decide) (hts _ fl_X3_29) (fun _ h9 => h9) rfl hin rfl (by decide +kernel) rfl rfl (Nat.le_of_ble_eq_true rfl) dX3_init_71 (fun H locs ho z1 oq hS => ?_)
  have ho : va_at D vwCl (a, .inr (3, [.int 0, .ref s.heap.size, .ref (s.heap.size + 2), .ref (s.heap.size + 4), .ref (s.heap.size + 6), .ref (s.heap.size + 8), .null, .null, .null, .null])) H := ho
  have h0 := h0.kept (oq _ (by omega)) (oq _ (by omega))
  have h1 := h1.kept (oq _ (by omega)) (oq _ (by omega))
  have h2 := h2.kept (oq _ (by omega)) (oq _ (by omega))
  have h3 := h3.kept (oq _ (by omega)) (oq _ (by omega))
  have h4 := h4.kept (oq _ (by omega)) (oq _ (by omega))
  have hz : H.size = s.heap.size + 10 := by omega
  refine lv_aload_n hx hb dX3_init_74 rfl (lv_at hl 0 rfl) ?_
  refine gk_new (fs := [.null]) hx hb hts iwX2 tyX2 tyX2_ok hown (hts _ cl_X3_9) (hts _ it_X2) (hts _ in_X2) hK.1 hS (ci := 2) rfl df_X2 ⟨Nat.le_of_ble_eq_true rfl, Nat.le_of_ble_eq_true rfl⟩ dX3_init_75 (fun q H hn q1 z1 hk hS => ?_)
  obtain rfl : q = (s.heap.size + 10) := by omega
  have h0 := h0.kept (hk _ (by omega)) (hk _ (by omega))
  have h1 := h1.kept (hk _ (by omega)) (hk _ (by omega))
  have h2 := h2.kept (hk _ (by omega)) (hk _ (by omega))
  have h3 := h3.kept (hk _ (by omega)) (hk _ (by omega))
  have h4 := h4.kept (hk _ (by omega)) (hk _ (by omega))
  have ho := ho.kept (hk _ (by omega))
  have hz : H.size = s.heap.size + 11 := by omega
  refine lv_dup hx hb dX3_init_78 rfl ?_
  refine lv_bipush (v := 30) hx hb dX3_init_79 (by decide) ?_
  refine lv_iconst (v := 0) hx hb dX3_init_81 (by decide) ?_
  have hzb := hz
  refine gk_ctor ⟨hx, hb, hml, hown, hts⟩ (c_X2_init l D cI cZ cG cL (n := 30) (N' := 30) (c9 := 0) (by decide) (by decide) (by decide)) (cwI 2 hts (gk_gI co_X2_init) rfl rfl rfl (hts _ in_X2) (hts _ ml_X3_11) (hts _ im_X2_init) rfl (by decide +kernel) ⟨Nat.le_of_ble_eq_true rfl, Nat.le_of_ble_eq_true rfl⟩) hn hK hS (Or.inr (by omega)) (fun q h => Or.inr h) rfl hl.1 (As := [.int 30, .int 0]) (rest := [.ref (s.heap.size + 10), .ref a]) rfl (lv_room (Nat.le_of_ble_eq_true rfl)) dX3_init_82 ⟨Nat.le_of_ble_eq_true rfl, Nat.le_of_ble_eq_true rfl⟩ (fun H locs z1 hP hk hS => ?_)
  rw [hzb] at hP
  have h0 := h0.kept (hk _ (by omega) (by omega)) (hk _ (by omega) (by omega))
  have h1 := h1.kept (hk _ (by omega) (by omega)) (hk _ (by omega) (by omega))
  have h2 := h2.kept (hk _ (by omega) (by omega)) (hk _ (by omega) (by omega))
  have h3 := h3.kept (hk _ (by omega) (by omega)) (hk _ (by omega) (by omega))
  have h4 := h4.kept (hk _ (by omega) (by omega)) (hk _ (by omega) (by omega))
  have ho := ho.kept (hk _ (by omega) (by omega))
  have h5 := hP
  have hz : H.size = s.heap.size + 12 := by omega
  refine gk_putF (ty := .object "PolicyGate$Row") (v := .ref (s.heap.size + 10)) hx hb hts iwX3 tyX3 tyX3_ok nmX3 hown hK.1 hS (Or.inl rfl) ho rfl 6 (by decide) (hts _ fl_X3_32) (fun _ h9 => h9) rfl hin rfl (by decide +kernel) rfl rfl (Nat.le_of_ble_eq_true rfl) dX3_init_85 (fun H locs ho z1 oq hS => ?_)
  have ho : va_at D vwCl (a, .inr (3, [.int 0, .ref s.heap.size, .ref (s.heap.size + 2), .ref (s.heap.size + 4), .ref (s.heap.size + 6), .ref (s.heap.size + 8), .ref (s.heap.size + 10), .null, .null, .null])) H := ho
  have h0 := h0.kept (oq _ (by omega)) (oq _ (by omega))
  have h1 := h1.kept (oq _ (by omega)) (oq _ (by omega))
  have h2 := h2.kept (oq _ (by omega)) (oq _ (by omega))
  have h3 := h3.kept (oq _ (by omega)) (oq _ (by omega))
  have h4 := h4.kept (oq _ (by omega)) (oq _ (by omega))
  have h5 := h5.kept (oq _ (by omega)) (oq _ (by omega))
  have hz : H.size = s.heap.size + 12 := by omega
  refine lv_aload_n hx hb dX3_init_88 rfl (lv_at hl 0 rfl) ?_
  refine gk_new (fs := [.null]) hx hb hts iwX2 tyX2 tyX2_ok hown (hts _ cl_X3_9) (hts _ it_X2) (hts _ in_X2) hK.1 hS (ci := 2) rfl df_X2 ⟨Nat.le_of_ble_eq_true rfl, Nat.le_of_ble_eq_true rfl⟩ dX3_init_89 (fun q H hn q1 z1 hk hS => ?_)
  obtain rfl : q = (s.heap.size + 12) := by omega
  have h0 := h0.kept (hk _ (by omega)) (hk _ (by omega))
  have h1 := h1.kept (hk _ (by omega)) (hk _ (by omega))
  have h2 := h2.kept (hk _ (by omega)) (hk _ (by omega))
  have h3 := h3.kept (hk _ (by omega)) (hk _ (by omega))
  have h4 := h4.kept (hk _ (by omega)) (hk _ (by omega))
  have h5 := h5.kept (hk _ (by omega)) (hk _ (by omega))
  have ho := ho.kept (hk _ (by omega))
  have hz : H.size = s.heap.size + 13 := by omega
  refine lv_dup hx hb dX3_init_92 rfl ?_
  refine lv_bipush (v := 30) hx hb dX3_init_93 (by decide) ?_
  refine lv_iconst (v := 0) hx hb dX3_init_95 (by decide) ?_
  have hzb := hz
  refine gk_ctor ⟨hx, hb, hml, hown, hts⟩ (c_X2_init l D cI cZ cG cL (n := 30) (N' := 30) (c9 := 0) (by decide) (by decide) (by decide)) (cwI 2 hts (gk_gI co_X2_init) rfl rfl rfl (hts _ in_X2) (hts _ ml_X3_11) (hts _ im_X2_init) rfl (by decide +kernel) ⟨Nat.le_of_ble_eq_true rfl, Nat.le_of_ble_eq_true rfl⟩) hn hK hS (Or.inr (by omega)) (fun q h => Or.inr h) rfl hl.1 (As := [.int 30, .int 0]) (rest := [.ref (s.heap.size + 12), .ref a]) rfl (lv_room (Nat.le_of_ble_eq_true rfl)) dX3_init_96 ⟨Nat.le_of_ble_eq_true rfl, Nat.le_of_ble_eq_true rfl⟩ (fun H locs z1 hP hk hS => ?_)
  rw [hzb] at hP
  have h0 := h0.kept (hk _ (by omega) (by omega)) (hk _ (by omega) (by omega))
  have h1 := h1.kept (hk _ (by omega) (by omega)) (hk _ (by omega) (by omega))
  have h2 := h2.kept (hk _ (by omega) (by omega)) (hk _ (by omega) (by omega))
  have h3 := h3.kept (hk _ (by omega) (by omega)) (hk _ (by omega) (by omega))
  have h4 := h4.kept (hk _ (by omega) (by omega)) (hk _ (by omega) (by omega))
  have h5 := h5.kept (hk _ (by omega) (by omega)) (hk _ (by omega) (by omega))
  have ho := ho.kept (hk _ (by omega) (by omega))
  have h6 := hP
  have hz : H.size = s.heap.size + 14 := by omega
  refine gk_putF (ty := .object "PolicyGate$Row") (v := .ref (s.heap.size + 12)) hx hb hts iwX3 tyX3 tyX3_ok nmX3 hown hK.1 hS (Or.inl rfl) ho rfl 7 (by decide) (hts _ fl_X3_35) (fun _ h9 => h9) rfl hin rfl (by decide +kernel) rfl rfl (Nat.le_of_ble_eq_true rfl) dX3_init_99 (fun H locs ho z1 oq hS => ?_)
  have ho : va_at D vwCl (a, .inr (3, [.int 0, .ref s.heap.size, .ref (s.heap.size + 2), .ref (s.heap.size + 4), .ref (s.heap.size + 6), .ref (s.heap.size + 8), .ref (s.heap.size + 10), .ref (s.heap.size + 12), .null, .null])) H := ho
  have h0 := h0.kept (oq _ (by omega)) (oq _ (by omega))
  have h1 := h1.kept (oq _ (by omega)) (oq _ (by omega))
  have h2 := h2.kept (oq _ (by omega)) (oq _ (by omega))
  have h3 := h3.kept (oq _ (by omega)) (oq _ (by omega))
  have h4 := h4.kept (oq _ (by omega)) (oq _ (by omega))
  have h5 := h5.kept (oq _ (by omega)) (oq _ (by omega))
  have h6 := h6.kept (oq _ (by omega)) (oq _ (by omega))
  have hz : H.size = s.heap.size + 14 := by omega
  refine lv_aload_n hx hb dX3_init_102 rfl (lv_at hl 0 rfl) ?_
  refine gk_new (fs := [.null]) hx hb hts iwX2 tyX2 tyX2_ok hown (hts _ cl_X3_9) (hts _ it_X2) (hts _ in_X2) hK.1 hS (ci := 2) rfl df_X2 ⟨Nat.le_of_ble_eq_true rfl, Nat.le_of_ble_eq_true rfl⟩ dX3_init_103 (fun q H hn q1 z1 hk hS => ?_)
  obtain rfl : q = (s.heap.size + 14) := by omega
  have h0 := h0.kept (hk _ (by omega)) (hk _ (by omega))
  have h1 := h1.kept (hk _ (by omega)) (hk _ (by omega))
  have h2 := h2.kept (hk _ (by omega)) (hk _ (by omega))
  have h3 := h3.kept (hk _ (by omega)) (hk _ (by omega))
  have h4 := h4.kept (hk _ (by omega)) (hk _ (by omega))
  have h5 := h5.kept (hk _ (by omega)) (hk _ (by omega))
  have h6 := h6.kept (hk _ (by omega)) (hk _ (by omega))
  have ho := ho.kept (hk _ (by omega))
  have hz : H.size = s.heap.size + 15 := by omega
  refine lv_dup hx hb dX3_init_106 rfl ?_
  refine lv_bipush (v := 30) hx hb dX3_init_107 (by decide) ?_
  refine lv_iconst (v := 0) hx hb dX3_init_109 (by decide) ?_
  have hzb := hz
  refine gk_ctor ⟨hx, hb, hml, hown, hts⟩ (c_X2_init l D cI cZ cG cL (n := 30) (N' := 30) (c9 := 0) (by decide) (by decide) (by decide)) (cwI 2 hts (gk_gI co_X2_init) rfl rfl rfl (hts _ in_X2) (hts _ ml_X3_11) (hts _ im_X2_init) rfl (by decide +kernel) ⟨Nat.le_of_ble_eq_true rfl, Nat.le_of_ble_eq_true rfl⟩) hn hK hS (Or.inr (by omega)) (fun q h => Or.inr h) rfl hl.1 (As := [.int 30, .int 0]) (rest := [.ref (s.heap.size + 14), .ref a]) rfl (lv_room (Nat.le_of_ble_eq_true rfl)) dX3_init_110 ⟨Nat.le_of_ble_eq_true rfl, Nat.le_of_ble_eq_true rfl⟩ (fun H locs z1 hP hk hS => ?_)
  rw [hzb] at hP
  have h0 := h0.kept (hk _ (by omega) (by omega)) (hk _ (by omega) (by omega))
  have h1 := h1.kept (hk _ (by omega) (by omega)) (hk _ (by omega) (by omega))
  have h2 := h2.kept (hk _ (by omega) (by omega)) (hk _ (by omega) (by omega))
  have h3 := h3.kept (hk _ (by omega) (by omega)) (hk _ (by omega) (by omega))
  have h4 := h4.kept (hk _ (by omega) (by omega)) (hk _ (by omega) (by omega))
  have h5 := h5.kept (hk _ (by omega) (by omega)) (hk _ (by omega) (by omega))
  have h6 := h6.kept (hk _ (by omega) (by omega)) (hk _ (by omega) (by omega))
  have ho := ho.kept (hk _ (by omega) (by omega))
  have h7 := hP
  have hz : H.size = s.heap.size + 16 := by omega
  refine gk_putF (ty := .object "PolicyGate$Row") (v := .ref (s.heap.size + 14)) hx hb hts iwX3 tyX3 tyX3_ok nmX3 hown hK.1 hS (Or.inl rfl) ho rfl 8 (by decide) (hts _ fl_X3_38) (fun _ h9 => h9) rfl hin rfl (by decide +kernel) rfl rfl (Nat.le_of_ble_eq_true rfl) dX3_init_113 (fun H locs ho z1 oq hS => ?_)
  have ho : va_at D vwCl (a, .inr (3, [.int 0, .ref s.heap.size, .ref (s.heap.size + 2), .ref (s.heap.size + 4), .ref (s.heap.size + 6), .ref (s.heap.size + 8), .ref (s.heap.size + 10), .ref (s.heap.size + 12), .ref (s.heap.size + 14), .null])) H := ho
  have h0 := h0.kept (oq _ (by omega)) (oq _ (by omega))
  have h1 := h1.kept (oq _ (by omega)) (oq _ (by omega))
  have h2 := h2.kept (oq _ (by omega)) (oq _ (by omega))
  have h3 := h3.kept (oq _ (by omega)) (oq _ (by omega))
  have h4 := h4.kept (oq _ (by omega)) (oq _ (by omega))
  have h5 := h5.kept (oq _ (by omega)) (oq _ (by omega))
  have h6 := h6.kept (oq _ (by omega)) (oq _ (by omega))
  have h7 := h7.kept (oq _ (by omega)) (oq _ (by omega))
  have hz : H.size = s.heap.size + 16 := by omega
  refine lv_aload_n hx hb dX3_init_116 rfl (lv_at hl 0 rfl) ?_
  refine gk_new (fs := [.null]) hx hb hts iwX2 tyX2 tyX2_ok hown (hts _ cl_X3_9) (hts _ it_X2) (hts _ in_X2) hK.1 hS (ci := 2) rfl df_X2 ⟨Nat.le_of_ble_eq_true rfl, Nat.le_of_ble_eq_true rfl⟩ dX3_init_117 (fun q H hn q1 z1 hk hS => ?_)
  obtain rfl : q = (s.heap.size + 16) := by omega
  have h0 := h0.kept (hk _ (by omega)) (hk _ (by omega))
  have h1 := h1.kept (hk _ (by omega)) (hk _ (by omega))
  have h2 := h2.kept (hk _ (by omega)) (hk _ (by omega))
  have h3 := h3.kept (hk _ (by omega)) (hk _ (by omega))
  have h4 := h4.kept (hk _ (by omega)) (hk _ (by omega))
  have h5 := h5.kept (hk _ (by omega)) (hk _ (by omega))
  have h6 := h6.kept (hk _ (by omega)) (hk _ (by omega))
  have h7 := h7.kept (hk _ (by omega)) (hk _ (by omega))
  have ho := ho.kept (hk _ (by omega))
  have hz : H.size = s.heap.size + 17 := by omega
  refine lv_dup hx hb dX3_init_120 rfl ?_
  refine lv_bipush (v := 30) hx hb dX3_init_121 (by decide) ?_
  refine lv_iconst (v := 0) hx hb dX3_init_123 (by decide) ?_
  have hzb := hz
  refine gk_ctor ⟨hx, hb, hml, hown, hts⟩ (c_X2_init l D cI cZ cG cL (n := 30) (N' := 30) (c9 := 0) (by decide) (by decide) (by decide)) (cwI 2 hts (gk_gI co_X2_init) rfl rfl rfl (hts _ in_X2) (hts _ ml_X3_11) (hts _ im_X2_init) rfl (by decide +kernel) ⟨Nat.le_of_ble_eq_true rfl, Nat.le_of_ble_eq_true rfl⟩) hn hK hS (Or.inr (by omega)) (fun q h => Or.inr h) rfl hl.1 (As := [.int 30, .int 0]) (rest := [.ref (s.heap.size + 16), .ref a]) rfl (lv_room (Nat.le_of_ble_eq_true rfl)) dX3_init_124 ⟨Nat.le_of_ble_eq_true rfl, Nat.le_of_ble_eq_true rfl⟩ (fun H locs z1 hP hk hS => ?_)
  rw [hzb] at hP
  have h0 := h0.kept (hk _ (by omega) (by omega)) (hk _ (by omega) (by omega))
  have h1 := h1.kept (hk _ (by omega) (by omega)) (hk _ (by omega) (by omega))
  have h2 := h2.kept (hk _ (by omega) (by omega)) (hk _ (by omega) (by omega))
  have h3 := h3.kept (hk _ (by omega) (by omega)) (hk _ (by omega) (by omega))
  have h4 := h4.kept (hk _ (by omega) (by omega)) (hk _ (by omega) (by omega))
  have h5 := h5.kept (hk _ (by omega) (by omega)) (hk _ (by omega) (by omega))
  have h6 := h6.kept (hk _ (by omega) (by omega)) (hk _ (by omega) (by omega))
  have h7 := h7.kept (hk _ (by omega) (by omega)) (hk _ (by omega) (by omega))
  have ho := ho.kept (hk _ (by omega) (by omega))
  have h8 := hP
  have hz : H.size = s.heap.size + 18 := by omega
  refine gk_putF (ty := .object "PolicyGate$Row") (v := .ref (s.heap.size + 16)) hx hb hts iwX3 tyX3 tyX3_ok nmX3 hown hK.1 hS (Or.inl rfl) ho rfl 9 (by decide) (hts _ fl_X3_41) (fun _ h9 => h9) rfl hin rfl (by decide +kernel) rfl rfl (Nat.le_of_ble_eq_true rfl) dX3_init_127 (fun H locs ho z1 oq hS => ?_)
  have ho : va_at D vwCl (a, .inr (3, [.int 0, .ref s.heap.size, .ref (s.heap.size + 2), .ref (s.heap.size + 4), .ref (s.heap.size + 6), .ref (s.heap.size + 8), .ref (s.heap.size + 10), .ref (s.heap.size + 12), .ref (s.heap.size + 14), .ref (s.heap.size + 16)])) H := ho
  have h0 := h0.kept (oq _ (by omega)) (oq _ (by omega))
  have h1 := h1.kept (oq _ (by omega)) (oq _ (by omega))
  have h2 := h2.kept (oq _ (by omega)) (oq _ (by omega))
  have h3 := h3.kept (oq _ (by omega)) (oq _ (by omega))
  have h4 := h4.kept (oq _ (by omega)) (oq _ (by omega))
  have h5 := h5.kept (oq _ (by omega)) (oq _ (by omega))
  have h6 := h6.kept (oq _ (by omega)) (oq _ (by omega))
  have h7 := h7.kept (oq _ (by omega)) (oq _ (by omega))
  have h8 := h8.kept (oq _ (by omega)) (oq _ (by omega))
  have hz : H.size = s.heap.size + 18 := by omega
  exact W.vret hx hb hr (fun t ht _ => ⟨⟨(), rfl, trivial, by rw [ht]; exact hz, by show gk_i3 D cI _ _ t.heap; rw [ht]; exact ⟨ho, h0, h1, h2, h3, h4, h5, h6, h7, h8⟩⟩, hS.F ht⟩) hS.2.2 dX3_init_130 (hlocks := hlocks)
def gk_i0 (D : va_G) (cI : ClassId) (a q : Nat) (H : Heap) : Prop := va_at D vwCl (a, .inr (0, [.int 0, .ref q, .ref (q + 2), .ref (q + 4), .ref (q + 6), .ref (q + 8), .ref (q + 10)])) H ∧ gk_rw D cI q (q + 1) 30 0 H ∧ gk_rw D cI (q + 2) (q + 3) 30 0 H ∧ gk_rw D cI (q + 4) (q + 5) 30 0 H ∧ gk_rw D cI (q + 6) (q + 7) 30 0 H ∧ gk_rw D cI (q + 8) (q + 9) 30 0 H ∧ gk_rw D cI (q + 10) (q + 11) 30 0 H
theorem gk_i0.kept {D : va_G} {cI : ClassId} {a q : Nat} {H H1 : Heap} (h : gk_i0 D cI a q H) (hq : ∀ z : Nat, z = a ∨ (q ≤ z ∧ z < q + 12) → H1[z]? = H[z]?) : gk_i0 D cI a q H1 := by
  obtain ⟨ho, h0, h1, h2, h3, h4, h5⟩ := h
  exact ⟨ho.kept (hq _ (Or.inl rfl)), h0.kept (hq _ (Or.inr ⟨by omega, by omega⟩)) (hq _ (Or.inr ⟨by omega, by omega⟩)), h1.kept (hq _ (Or.inr ⟨by omega, by omega⟩)) (hq _ (Or.inr ⟨by omega, by omega⟩)), h2.kept (hq _ (Or.inr ⟨by omega, by omega⟩)) (hq _ (Or.inr ⟨by omega, by omega⟩)), h3.kept (hq _ (Or.inr ⟨by omega, by omega⟩)) (hq _ (Or.inr ⟨by omega, by omega⟩)), h4.kept (hq _ (Or.inr ⟨by omega, by omega⟩)) (hq _ (Or.inr ⟨by omega, by omega⟩)), h5.kept (hq _ (Or.inr ⟨by omega, by omega⟩)) (hq _ (Or.inr ⟨by omega, by omega⟩))⟩
abbrev rmX0_init : Room := { frames := 2, cells := 12, slots := 186, locals := 45 }
set_option maxHeartbeats 4000000 in
set_option maxRecDepth 100000 in
theorem c_X0_init (l : Launch) (D : va_G) (cI cZ cG cL : ClassId) {a sz : Nat} : Met l yX0_init wsX0_init rmX0_init (gk_Pi D cI cZ cG cL [.ref a] a (.inr (0, [.int 0, .null, .null, .null, .null, .null, .null])) sz) (gk_Qc (gk_i0 D cI a sz) a sz 12) 12 186 (gk_cA a sz) := by
  refine Met.ofW (cc := cX0_init) (maxL := 1) (ret := none) (by decide) rfl ?_
  intro p e s m args below meth c s₁ B hml0 hv0
  obtain ⟨rfl, hsz, ho, hK⟩ := hv0
  subst hsz
  have C0 : gk_F p s m ([.ref a] : List Value).toArray meth c cX0_init 1 none RX0 := ⟨B.exec, B.bytes, hml0, findClass_of_methodNamed B.named, fun w hw => atoms_spec (ws := wsX0_init) B.pre w (List.mem_cons_of_mem _ hw), B.returns, B.notSynchronized⟩
  obtain ⟨hx, hb, hml, hown, hts, hr, hlocks⟩ := id C0
  have hin : meth.name = "<init>" := (name_of_methodNamed B.named B.method).1
  have ha0 : a < s.heap.size := ho.lt
  have hS : va_S (gk_cA a s.heap.size) s.heap s.heap [] := va_S.rf
  have hz : s.heap.size = s.heap.size + 0 := rfl
  have hl := lv_entry ([.ref a]) (n := 1) (Nat.le_of_ble_eq_true rfl)
  rw [lg_entry_eq]
  generalize (lg_sl ([.ref a]) ++ List.replicate (1 - (lg_sl ([.ref a])).length) Slot.unset).toArray = ls at hl ⊢
  have hl : lv_has ls 1 [(0, .ref a)] := hl
  show W p l e rmX0_init s m _ below meth c s.heap [] 0 0 _ _
  refine lv_aload_n hx hb dX0_init_0 rfl (lv_at hl 0 rfl) ?_
  refine W.objInit hx hb hown (hts _ oi_X0) (hts _ gk_oi1) (hts _ gk_oi2) rfl (by rw [hml]; exact hl.1) rfl dX0_init_1 (Nat.le_of_ble_eq_true rfl) (Nat.le_of_ble_eq_true rfl) ?_
  refine W.eq (g2 := F0 m 4 ls []) rfl ?_
  refine lv_aload_n hx hb dX0_init_4 rfl (lv_at hl 0 rfl) ?_
  refine gk_new (fs := [.null]) hx hb hts iwX2 tyX2 tyX2_ok hown (hts _ cl_X0_9) (hts _ it_X2) (hts _ in_X2) hK.1 hS (ci := 2) rfl df_X2 ⟨Nat.le_of_ble_eq_true rfl, Nat.le_of_ble_eq_true rfl⟩ dX0_init_5 (fun q H hn q1 z1 hk hS => ?_)
  obtain rfl : q = s.heap.size := by omega
  have ho := ho.kept (hk _ (by omega))
  have hz : H.size = s.heap.size + 1 := by omega
  refine lv_dup hx hb dX0_init_8 rfl ?_
  refine lv_bipush (v := 30) hx hb dX0_init_9 (by decide) ?_
  refine lv_iconst (v := 0) hx hb dX0_init_11 (by decide) ?_
  have hzb := hz
  refine gk_ctor ⟨hx, hb, hml, hown, hts⟩ (c_X2_init l D cI cZ cG cL (n := 30) (N' := 30) (c9 := 0) (by decide) (by decide) (by decide)) (cwI 2 hts (gk_gI co_X2_init) rfl rfl rfl (hts _ in_X2) (hts _ ml_X0_11) (hts _ im_X2_init) rfl (by decide +kernel) ⟨Nat.le_of_ble_eq_true rfl, Nat.le_of_ble_eq_true rfl⟩) hn hK hS (Or.inr (by omega)) (fun q h => Or.inr h) rfl hl.1 (As := [.int 30, .int 0]) (rest := [.ref s.heap.size, .ref a]) rfl (lv_room (Nat.le_of_ble_eq_true rfl)) dX0_init_12 ⟨Nat.le_of_ble_eq_true rfl, Nat.le_of_ble_eq_true rfl⟩ (fun H locs z1 hP hk hS => ?_)
  rw [hzb] at hP
  have ho := ho.kept (hk _ (by omega) (by omega))
  have h0 := hP
  have hz : H.size = s.heap.size + 2 := by omega
  refine gk_putF (ty := .object "PolicyGate$Row") (v := .ref s.heap.size) hx hb hts iwX0 tyX0 tyX0_ok nmX0 hown hK.1 hS (Or.inl rfl) ho rfl 1 (by decide) (hts _ fl_X0_14) (fun _ h9 => h9) rfl hin rfl (by decide +kernel) rfl rfl (Nat.le_of_ble_eq_true rfl) dX0_init_15 (fun H locs ho z1 oq hS => ?_)
  have ho : va_at D vwCl (a, .inr (0, [.int 0, .ref s.heap.size, .null, .null, .null, .null, .null])) H := ho
  have h0 := h0.kept (oq _ (by omega)) (oq _ (by omega))
  have hz : H.size = s.heap.size + 2 := by omega
  refine lv_aload_n hx hb dX0_init_18 rfl (lv_at hl 0 rfl) ?_
  refine gk_new (fs := [.null]) hx hb hts iwX2 tyX2 tyX2_ok hown (hts _ cl_X0_9) (hts _ it_X2) (hts _ in_X2) hK.1 hS (ci := 2) rfl df_X2 ⟨Nat.le_of_ble_eq_true rfl, Nat.le_of_ble_eq_true rfl⟩ dX0_init_19 (fun q H hn q1 z1 hk hS => ?_)
  obtain rfl : q = (s.heap.size + 2) := by omega
  have h0 := h0.kept (hk _ (by omega)) (hk _ (by omega))
  have ho := ho.kept (hk _ (by omega))
  have hz : H.size = s.heap.size + 3 := by omega
  refine lv_dup hx hb dX0_init_22 rfl ?_
  refine lv_bipush (v := 30) hx hb dX0_init_23 (by decide) ?_
  refine lv_iconst (v := 0) hx hb dX0_init_25 (by decide) ?_
  have hzb := hz
  refine gk_ctor ⟨hx, hb, hml, hown, hts⟩ (c_X2_init l D cI cZ cG cL (n := 30) (N' := 30) (c9 := 0) (by decide) (by decide) (by decide)) (cwI 2 hts (gk_gI co_X2_init) rfl rfl rfl (hts _ in_X2) (hts _ ml_X0_11) (hts _ im_X2_init) rfl (by decide +kernel) ⟨Nat.le_of_ble_eq_true rfl, Nat.le_of_ble_eq_true rfl⟩) hn hK hS (Or.inr (by omega)) (fun q h => Or.inr h) rfl hl.1 (As := [.int 30, .int 0]) (rest := [.ref (s.heap.size + 2), .ref a]) rfl (lv_room (Nat.le_of_ble_eq_true rfl)) dX0_init_26 ⟨Nat.le_of_ble_eq_true rfl, Nat.le_of_ble_eq_true rfl⟩ (fun H locs z1 hP hk hS => ?_)
  rw [hzb] at hP
  have h0 := h0.kept (hk _ (by omega) (by omega)) (hk _ (by omega) (by omega))
  have ho := ho.kept (hk _ (by omega) (by omega))
  have h1 := hP
  have hz : H.size = s.heap.size + 4 := by omega
  refine gk_putF (ty := .object "PolicyGate$Row") (v := .ref (s.heap.size + 2)) hx hb hts iwX0 tyX0 tyX0_ok nmX0 hown hK.1 hS (Or.inl rfl) ho rfl 2 (by decide) (hts _ fl_X0_20) (fun _ h9 => h9) rfl hin rfl (by decide +kernel) rfl rfl (Nat.le_of_ble_eq_true rfl) dX0_init_29 (fun H locs ho z1 oq hS => ?_)
  have ho : va_at D vwCl (a, .inr (0, [.int 0, .ref s.heap.size, .ref (s.heap.size + 2), .null, .null, .null, .null])) H := ho
  have h0 := h0.kept (oq _ (by omega)) (oq _ (by omega))
  have h1 := h1.kept (oq _ (by omega)) (oq _ (by omega))
  have hz : H.size = s.heap.size + 4 := by omega
  refine lv_aload_n hx hb dX0_init_32 rfl (lv_at hl 0 rfl) ?_
  refine gk_new (fs := [.null]) hx hb hts iwX2 tyX2 tyX2_ok hown (hts _ cl_X0_9) (hts _ it_X2) (hts _ in_X2) hK.1 hS (ci := 2) rfl df_X2 ⟨Nat.le_of_ble_eq_true rfl, Nat.le_of_ble_eq_true rfl⟩ dX0_init_33 (fun q H hn q1 z1 hk hS => ?_)
  obtain rfl : q = (s.heap.size + 4) := by omega
  have h0 := h0.kept (hk _ (by omega)) (hk _ (by omega))
  have h1 := h1.kept (hk _ (by omega)) (hk _ (by omega))
  have ho := ho.kept (hk _ (by omega))
  have hz : H.size = s.heap.size + 5 := by omega
  refine lv_dup hx hb dX0_init_36 rfl ?_
  refine lv_bipush (v := 30) hx hb dX0_init_37 (by decide) ?_
  refine lv_iconst (v := 0) hx hb dX0_init_39 (by decide) ?_
  have hzb := hz
  refine gk_ctor ⟨hx, hb, hml, hown, hts⟩ (c_X2_init l D cI cZ cG cL (n := 30) (N' := 30) (c9 := 0) (by decide) (by decide) (by decide)) (cwI 2 hts (gk_gI co_X2_init) rfl rfl rfl (hts _ in_X2) (hts _ ml_X0_11) (hts _ im_X2_init) rfl (by decide +kernel) ⟨Nat.le_of_ble_eq_true rfl, Nat.le_of_ble_eq_true rfl⟩) hn hK hS (Or.inr (by omega)) (fun q h => Or.inr h) rfl hl.1 (As := [.int 30, .int 0]) (rest := [.ref (s.heap.size + 4), .ref a]) rfl (lv_room (Nat.le_of_ble_eq_true rfl)) dX0_init_40 ⟨Nat.le_of_ble_eq_true rfl, Nat.le_of_ble_eq_true rfl⟩ (fun H locs z1 hP hk hS => ?_)
  rw [hzb] at hP
  have h0 := h0.kept (hk _ (by omega) (by omega)) (hk _ (by omega) (by omega))
  have h1 := h1.kept (hk _ (by omega) (by omega)) (hk _ (by omega) (by omega))
  have ho := ho.kept (hk _ (by omega) (by omega))
  have h2 := hP
  have hz : H.size = s.heap.size + 6 := by omega
  refine gk_putF (ty := .object "PolicyGate$Row") (v := .ref (s.heap.size + 4)) hx hb hts iwX0 tyX0 tyX0_ok nmX0 hown hK.1 hS (Or.inl rfl) ho rfl 3 (by decide) (hts _ fl_X0_23) (fun _ h9 => h9) rfl hin rfl (by decide +kernel) rfl rfl (Nat.le_of_ble_eq_true rfl) dX0_init_43 (fun H locs ho z1 oq hS => ?_)
  have ho : va_at D vwCl (a, .inr (0, [.int 0, .ref s.heap.size, .ref (s.heap.size + 2), .ref (s.heap.size + 4), .null, .null, .null])) H := ho
  have h0 := h0.kept (oq _ (by omega)) (oq _ (by omega))
  have h1 := h1.kept (oq _ (by omega)) (oq _ (by omega))
  have h2 := h2.kept (oq _ (by omega)) (oq _ (by omega))
  have hz : H.size = s.heap.size + 6 := by omega
  refine lv_aload_n hx hb dX0_init_46 rfl (lv_at hl 0 rfl) ?_
  refine gk_new (fs := [.null]) hx hb hts iwX2 tyX2 tyX2_ok hown (hts _ cl_X0_9) (hts _ it_X2) (hts _ in_X2) hK.1 hS (ci := 2) rfl df_X2 ⟨Nat.le_of_ble_eq_true rfl, Nat.le_of_ble_eq_true rfl⟩ dX0_init_47 (fun q H hn q1 z1 hk hS => ?_)
  obtain rfl : q = (s.heap.size + 6) := by omega
  have h0 := h0.kept (hk _ (by omega)) (hk _ (by omega))
  have h1 := h1.kept (hk _ (by omega)) (hk _ (by omega))
  have h2 := h2.kept (hk _ (by omega)) (hk _ (by omega))
  have ho := ho.kept (hk _ (by omega))
  have hz : H.size = s.heap.size + 7 := by omega
  refine lv_dup hx hb dX0_init_50 rfl ?_
  refine lv_bipush (v := 30) hx hb dX0_init_51 (by decide) ?_
  refine lv_iconst (v := 0) hx hb dX0_init_53 (by decide) ?_
  have hzb := hz
  refine gk_ctor ⟨hx, hb, hml, hown, hts⟩ (c_X2_init l D cI cZ cG cL (n := 30) (N' := 30) (c9 := 0) (by decide) (by decide) (by decide)) (cwI 2 hts (gk_gI co_X2_init) rfl rfl rfl (hts _ in_X2) (hts _ ml_X0_11) (hts _ im_X2_init) rfl (by decide +kernel) ⟨Nat.le_of_ble_eq_true rfl, Nat.le_of_ble_eq_true rfl⟩) hn hK hS (Or.inr (by omega)) (fun q h => Or.inr h) rfl hl.1 (As := [.int 30, .int 0]) (rest := [.ref (s.heap.size + 6), .ref a]) rfl (lv_room (Nat.le_of_ble_eq_true rfl)) dX0_init_54 ⟨Nat.le_of_ble_eq_true rfl, Nat.le_of_ble_eq_true rfl⟩ (fun H locs z1 hP hk hS => ?_)
  rw [hzb] at hP
  have h0 := h0.kept (hk _ (by omega) (by omega)) (hk _ (by omega) (by omega))
  have h1 := h1.kept (hk _ (by omega) (by omega)) (hk _ (by omega) (by omega))
  have h2 := h2.kept (hk _ (by omega) (by omega)) (hk _ (by omega) (by omega))
  have ho := ho.kept (hk _ (by omega) (by omega))
  have h3 := hP
  have hz : H.size = s.heap.size + 8 := by omega
  refine gk_putF (ty := .object "PolicyGate$Row") (v := .ref (s.heap.size + 6)) hx hb hts iwX0 tyX0 tyX0_ok nmX0 hown hK.1 hS (Or.inl rfl) ho rfl 4 (by decide) (hts _ fl_X0_26) (fun _ h9 => h9) rfl hin rfl (by decide +kernel) rfl rfl (Nat.le_of_ble_eq_true rfl) dX0_init_57 (fun H locs ho z1 oq hS => ?_)
  have ho : va_at D vwCl (a, .inr (0, [.int 0, .ref s.heap.size, .ref (s.heap.size + 2), .ref (s.heap.size + 4), .ref (s.heap.size + 6), .null, .null])) H := ho
  have h0 := h0.kept (oq _ (by omega)) (oq _ (by omega))
  have h1 := h1.kept (oq _ (by omega)) (oq _ (by omega))
  have h2 := h2.kept (oq _ (by omega)) (oq _ (by omega))
  have h3 := h3.kept (oq _ (by omega)) (oq _ (by omega))
  have hz : H.size = s.heap.size + 8 := by omega
  refine lv_aload_n hx hb dX0_init_60 rfl (lv_at hl 0 rfl) ?_
  refine gk_new (fs := [.null]) hx hb hts iwX2 tyX2 tyX2_ok hown (hts _ cl_X0_9) (hts _ it_X2) (hts _ in_X2) hK.1 hS (ci := 2) rfl df_X2 ⟨Nat.le_of_ble_eq_true rfl, Nat.le_of_ble_eq_true rfl⟩ dX0_init_61 (fun q H hn q1 z1 hk hS => ?_)
  obtain rfl : q = (s.heap.size + 8) := by omega
  have h0 := h0.kept (hk _ (by omega)) (hk _ (by omega))
  have h1 := h1.kept (hk _ (by omega)) (hk _ (by omega))
  have h2 := h2.kept (hk _ (by omega)) (hk _ (by omega))
  have h3 := h3.kept (hk _ (by omega)) (hk _ (by omega))
  have ho := ho.kept (hk _ (by omega))
  have hz : H.size = s.heap.size + 9 := by omega
  refine lv_dup hx hb dX0_init_64 rfl ?_
  refine lv_bipush (v := 30) hx hb dX0_init_65 (by decide) ?_
  refine lv_iconst (v := 0) hx hb dX0_init_67 (by decide) ?_
  have hzb := hz
  refine gk_ctor ⟨hx, hb, hml, hown, hts⟩ (c_X2_init l D cI cZ cG cL (n := 30) (N' := 30) (c9 := 0) (by decide) (by decide) (by decide)) (cwI 2 hts (gk_gI co_X2_init) rfl rfl rfl (hts _ in_X2) (hts _ ml_X0_11) (hts _ im_X2_init) rfl (by decide +kernel) ⟨Nat.le_of_ble_eq_true rfl, Nat.le_of_ble_eq_true rfl⟩) hn hK hS (Or.inr (by omega)) (fun q h => Or.inr h) rfl hl.1 (As := [.int 30, .int 0]) (rest := [.ref (s.heap.size + 8), .ref a]) rfl (lv_room (Nat.le_of_ble_eq_true rfl)) dX0_init_68 ⟨Nat.le_of_ble_eq_true rfl, Nat.le_of_ble_eq_true rfl⟩ (fun H locs z1 hP hk hS => ?_)
  rw [hzb] at hP
  have h0 := h0.kept (hk _ (by omega) (by omega)) (hk _ (by omega) (by omega))
  have h1 := h1.kept (hk _ (by omega) (by omega)) (hk _ (by omega) (by omega))
  have h2 := h2.kept (hk _ (by omega) (by omega)) (hk _ (by omega) (by omega))
  have h3 := h3.kept (hk _ (by omega) (by omega)) (hk _ (by omega) (by omega))
  have ho := ho.kept (hk _ (by omega) (by omega))
  have h4 := hP
  have hz : H.size = s.heap.size + 10 := by omega
  refine gk_putF (ty := .object "PolicyGate$Row") (v := .ref (s.heap.size + 8)) hx hb hts iwX0 tyX0 tyX0_ok nmX0 hown hK.1 hS (Or.inl rfl) ho rfl 5 (by decide) (hts _ fl_X0_29) (fun _ h9 => h9) rfl hin rfl (by decide +kernel) rfl rfl (Nat.le_of_ble_eq_true rfl) dX0_init_71 (fun H locs ho z1 oq hS => ?_)
  have ho : va_at D vwCl (a, .inr (0, [.int 0, .ref s.heap.size, .ref (s.heap.size + 2), .ref (s.heap.size + 4), .ref (s.heap.size + 6), .ref (s.heap.size + 8), .null])) H := ho
  have h0 := h0.kept (oq _ (by omega)) (oq _ (by omega))
  have h1 := h1.kept (oq _ (by omega)) (oq _ (by omega))
  have h2 := h2.kept (oq _ (by omega)) (oq _ (by omega))
  have h3 := h3.kept (oq _ (by omega)) (oq _ (by omega))
  have h4 := h4.kept (oq _ (by omega)) (oq _ (by omega))
  have hz : H.size = s.heap.size + 10 := by omega
  refine lv_aload_n hx hb dX0_init_74 rfl (lv_at hl 0 rfl) ?_
  refine gk_new (fs := [.null]) hx hb hts iwX2 tyX2 tyX2_ok hown (hts _ cl_X0_9) (hts _ it_X2) (hts _ in_X2) hK.1 hS (ci := 2) rfl df_X2 ⟨Nat.le_of_ble_eq_true rfl, Nat.le_of_ble_eq_true rfl⟩ dX0_init_75 (fun q H hn q1 z1 hk hS => ?_)
  obtain rfl : q = (s.heap.size + 10) := by omega
  have h0 := h0.kept (hk _ (by omega)) (hk _ (by omega))
  have h1 := h1.kept (hk _ (by omega)) (hk _ (by omega))
  have h2 := h2.kept (hk _ (by omega)) (hk _ (by omega))
  have h3 := h3.kept (hk _ (by omega)) (hk _ (by omega))
  have h4 := h4.kept (hk _ (by omega)) (hk _ (by omega))
  have ho := ho.kept (hk _ (by omega))
  have hz : H.size = s.heap.size + 11 := by omega
  refine lv_dup hx hb dX0_init_78 rfl ?_
  refine lv_bipush (v := 30) hx hb dX0_init_79 (by decide) ?_
  refine lv_iconst (v := 0) hx hb dX0_init_81 (by decide) ?_
  have hzb := hz
  refine gk_ctor ⟨hx, hb, hml, hown, hts⟩ (c_X2_init l D cI cZ cG cL (n := 30) (N' := 30) (c9 := 0) (by decide) (by decide) (by decide)) (cwI 2 hts (gk_gI co_X2_init) rfl rfl rfl (hts _ in_X2) (hts _ ml_X0_11) (hts _ im_X2_init) rfl (by decide +kernel) ⟨Nat.le_of_ble_eq_true rfl, Nat.le_of_ble_eq_true rfl⟩) hn hK hS (Or.inr (by omega)) (fun q h => Or.inr h) rfl hl.1 (As := [.int 30, .int 0]) (rest := [.ref (s.heap.size + 10), .ref a]) rfl (lv_room (Nat.le_of_ble_eq_true rfl)) dX0_init_82 ⟨Nat.le_of_ble_eq_true rfl, Nat.le_of_ble_eq_true rfl⟩ (fun H locs z1 hP hk hS => ?_)
  rw [hzb] at hP
  have h0 := h0.kept (hk _ (by omega) (by omega)) (hk _ (by omega) (by omega))
  have h1 := h1.kept (hk _ (by omega) (by omega)) (hk _ (by omega) (by omega))
  have h2 := h2.kept (hk _ (by omega) (by omega)) (hk _ (by omega) (by omega))
  have h3 := h3.kept (hk _ (by omega) (by omega)) (hk _ (by omega) (by omega))
  have h4 := h4.kept (hk _ (by omega) (by omega)) (hk _ (by omega) (by omega))
  have ho := ho.kept (hk _ (by omega) (by omega))
  have h5 := hP
  have hz : H.size = s.heap.size + 12 := by omega
  refine gk_putF (ty := .object "PolicyGate$Row") (v := .ref (s.heap.size + 10)) hx hb hts iwX0 tyX0 tyX0_ok nmX0 hown hK.1 hS (Or.inl rfl) ho rfl 6 (by decide) (hts _ fl_X0_32) (fun _ h9 => h9) rfl hin rfl (by decide +kernel) rfl rfl (Nat.le_of_ble_eq_true rfl) dX0_init_85 (fun H locs ho z1 oq hS => ?_)
  have ho : va_at D vwCl (a, .inr (0, [.int 0, .ref s.heap.size, .ref (s.heap.size + 2), .ref (s.heap.size + 4), .ref (s.heap.size + 6), .ref (s.heap.size + 8), .ref (s.heap.size + 10)])) H := ho
  have h0 := h0.kept (oq _ (by omega)) (oq _ (by omega))
  have h1 := h1.kept (oq _ (by omega)) (oq _ (by omega))
  have h2 := h2.kept (oq _ (by omega)) (oq _ (by omega))
  have h3 := h3.kept (oq _ (by omega)) (oq _ (by omega))
  have h4 := h4.kept (oq _ (by omega)) (oq _ (by omega))
  have h5 := h5.kept (oq _ (by omega)) (oq _ (by omega))
  have hz : H.size = s.heap.size + 12 := by omega
  exact W.vret hx hb hr (fun t ht _ => ⟨⟨(), rfl, trivial, by rw [ht]; exact hz, by show gk_i0 D cI _ _ t.heap; rw [ht]; exact ⟨ho, h0, h1, h2, h3, h4, h5⟩⟩, hS.F ht⟩) hS.2.2 dX0_init_88 (hlocks := hlocks)
def gk_i7 (D : va_G) (cI : ClassId) (a q b : Nat) (H : Heap) : Prop := va_at D vwCl (a, .inr (7, [.ref b, .ref q, .ref (q + 2), .ref (q + 4), .ref (q + 6), .ref (q + 8), .ref (q + 10), .int 0, .int 0, .int 0, .int 0])) H ∧ gk_rw D cI q (q + 1) 5 0 H ∧ gk_rw D cI (q + 2) (q + 3) 24 0 H ∧ gk_rw D cI (q + 4) (q + 5) 12 0 H ∧ gk_rw D cI (q + 6) (q + 7) 360 0 H ∧ gk_rw D cI (q + 8) (q + 9) 48 0 H ∧ gk_rw D cI (q + 10) (q + 11) 30 0 H
theorem gk_i7.kept {D : va_G} {cI : ClassId} {a q b : Nat} {H H1 : Heap} (h : gk_i7 D cI a q b H) (hq : ∀ z : Nat, z = a ∨ (q ≤ z ∧ z < q + 12) → H1[z]? = H[z]?) : gk_i7 D cI a q b H1 := by
  obtain ⟨ho, h0, h1, h2, h3, h4, h5⟩ := h
  exact ⟨ho.kept (hq _ (Or.inl rfl)), h0.kept (hq _ (Or.inr ⟨by omega, by omega⟩)) (hq _ (Or.inr ⟨by omega, by omega⟩)), h1.kept (hq _ (Or.inr ⟨by omega, by omega⟩)) (hq _ (Or.inr ⟨by omega, by omega⟩)), h2.kept (hq _ (Or.inr ⟨by omega, by omega⟩)) (hq _ (Or.inr ⟨by omega, by omega⟩)), h3.kept (hq _ (Or.inr ⟨by omega, by omega⟩)) (hq _ (Or.inr ⟨by omega, by omega⟩)), h4.kept (hq _ (Or.inr ⟨by omega, by omega⟩)) (hq _ (Or.inr ⟨by omega, by omega⟩)), h5.kept (hq _ (Or.inr ⟨by omega, by omega⟩)) (hq _ (Or.inr ⟨by omega, by omega⟩))⟩
abbrev rmX7_init : Room := { frames := 2, cells := 12, slots := 485, locals := 45 }
set_option maxHeartbeats 4000000 in
set_option maxRecDepth 100000 in
theorem c_X7_init (l : Launch) (D : va_G) (cI cZ cG cL : ClassId) {a sz b : Nat} : Met l yX7_init wsX7_init rmX7_init (gk_Pi D cI cZ cG cL [.ref a, .ref b] a (.inr (7, [.null, .null, .null, .null, .null, .null, .null, .int 0, .int 0, .int 0, .int 0])) sz) (gk_Qc (gk_i7 D cI a sz b) a sz 12) 12 485 (gk_cA a sz) := by
  refine Met.ofW (cc := cX7_init) (maxL := 2) (ret := none) (by decide) rfl ?_
  intro p e s m args below meth c s₁ B hml0 hv0
  obtain ⟨rfl, hsz, ho, hK⟩ := hv0
  subst hsz
  have C0 : gk_F p s m ([.ref a, .ref b] : List Value).toArray meth c cX7_init 2 none RX7 := ⟨B.exec, B.bytes, hml0, findClass_of_methodNamed B.named, fun w hw => atoms_spec (ws := wsX7_init) B.pre w (List.mem_cons_of_mem _ hw), B.returns, B.notSynchronized⟩
  obtain ⟨hx, hb, hml, hown, hts, hr, hlocks⟩ := id C0
  have hin : meth.name = "<init>" := (name_of_methodNamed B.named B.method).1
  have ha0 : a < s.heap.size := ho.lt
  have hS : va_S (gk_cA a s.heap.size) s.heap s.heap [] := va_S.rf
  have hz : s.heap.size = s.heap.size + 0 := rfl
  have hl := lv_entry ([.ref a, .ref b]) (n := 2) (Nat.le_of_ble_eq_true rfl)
  rw [lg_entry_eq]
  generalize (lg_sl ([.ref a, .ref b]) ++ List.replicate (2 - (lg_sl ([.ref a, .ref b])).length) Slot.unset).toArray = ls at hl ⊢
  have hl : lv_has ls 2 [(0, .ref a), (1, .ref b)] := hl
  show W p l e rmX7_init s m _ below meth c s.heap [] 0 0 _ _
  refine lv_aload_n hx hb dX7_init_0 rfl (lv_at hl 0 rfl) ?_
  refine W.objInit hx hb hown (hts _ oi_X7) (hts _ gk_oi1) (hts _ gk_oi2) rfl (by rw [hml]; exact hl.1) rfl dX7_init_1 (Nat.le_of_ble_eq_true rfl) (Nat.le_of_ble_eq_true rfl) ?_
  refine W.eq (g2 := F0 m 4 ls []) rfl ?_
  refine lv_aload_n hx hb dX7_init_4 rfl (lv_at hl 0 rfl) ?_
  refine gk_new (fs := [.null]) hx hb hts iwX2 tyX2 tyX2_ok hown (hts _ cl_X7_9) (hts _ it_X2) (hts _ in_X2) hK.1 hS (ci := 2) rfl df_X2 ⟨Nat.le_of_ble_eq_true rfl, Nat.le_of_ble_eq_true rfl⟩ dX7_init_5 (fun q H hn q1 z1 hk hS => ?_)
  obtain rfl : q = s.heap.size := by omega
  have ho := ho.kept (hk _ (by omega))
  have hz : H.size = s.heap.size + 1 := by omega
  refine lv_dup hx hb dX7_init_8 rfl ?_
  refine lv_iconst (v := 5) hx hb dX7_init_9 (by decide) ?_
  refine lv_iconst (v := 0) hx hb dX7_init_10 (by decide) ?_
  have hzb := hz
  refine gk_ctor ⟨hx, hb, hml, hown, hts⟩ (c_X2_init l D cI cZ cG cL (n := 5) (N' := 5) (c9 := 0) (by decide) (by decide) (by decide)) (cwI 2 hts (gk_gI co_X2_init) rfl rfl rfl (hts _ in_X2) (hts _ ml_X7_11) (hts _ im_X2_init) rfl (by decide +kernel) ⟨Nat.le_of_ble_eq_true rfl, Nat.le_of_ble_eq_true rfl⟩) hn hK hS (Or.inr (by omega)) (fun q h => Or.inr h) rfl hl.1 (As := [.int 5, .int 0]) (rest := [.ref s.heap.size, .ref a]) rfl (lv_room (Nat.le_of_ble_eq_true rfl)) dX7_init_11 ⟨Nat.le_of_ble_eq_true rfl, Nat.le_of_ble_eq_true rfl⟩ (fun H locs z1 hP hk hS => ?_)
  rw [hzb] at hP
  have ho := ho.kept (hk _ (by omega) (by omega))
  have h0 := hP
  have hz : H.size = s.heap.size + 2 := by omega
  refine gk_putF (ty := .object "PolicyGate$Row") (v := .ref s.heap.size) hx hb hts iwX7 tyX7 tyX7_ok nmX7 hown hK.1 hS (Or.inl rfl) ho rfl 1 (by decide) (hts _ fl_X7_14) (fun _ h9 => h9) rfl hin rfl (by decide +kernel) rfl rfl (Nat.le_of_ble_eq_true rfl) dX7_init_14 (fun H locs ho z1 oq hS => ?_)
  have ho : va_at D vwCl (a, .inr (7, [.null, .ref s.heap.size, .null, .null, .null, .null, .null, .int 0, .int 0, .int 0, .int 0])) H := ho
  have h0 := h0.kept (oq _ (by omega)) (oq _ (by omega))
  have hz : H.size = s.heap.size + 2 := by omega
  refine lv_aload_n hx hb dX7_init_17 rfl (lv_at hl 0 rfl) ?_
  refine gk_new (fs := [.null]) hx hb hts iwX2 tyX2 tyX2_ok hown (hts _ cl_X7_9) (hts _ it_X2) (hts _ in_X2) hK.1 hS (ci := 2) rfl df_X2 ⟨Nat.le_of_ble_eq_true rfl, Nat.le_of_ble_eq_true rfl⟩ dX7_init_18 (fun q H hn q1 z1 hk hS => ?_)
  obtain rfl : q = (s.heap.size + 2) := by omega
  have h0 := h0.kept (hk _ (by omega)) (hk _ (by omega))
  have ho := ho.kept (hk _ (by omega))
  have hz : H.size = s.heap.size + 3 := by omega
  refine lv_dup hx hb dX7_init_21 rfl ?_
  refine lv_bipush (v := 24) hx hb dX7_init_22 (by decide) ?_
  refine lv_iconst (v := 0) hx hb dX7_init_24 (by decide) ?_
  have hzb := hz
  refine gk_ctor ⟨hx, hb, hml, hown, hts⟩ (c_X2_init l D cI cZ cG cL (n := 24) (N' := 24) (c9 := 0) (by decide) (by decide) (by decide)) (cwI 2 hts (gk_gI co_X2_init) rfl rfl rfl (hts _ in_X2) (hts _ ml_X7_11) (hts _ im_X2_init) rfl (by decide +kernel) ⟨Nat.le_of_ble_eq_true rfl, Nat.le_of_ble_eq_true rfl⟩) hn hK hS (Or.inr (by omega)) (fun q h => Or.inr h) rfl hl.1 (As := [.int 24, .int 0]) (rest := [.ref (s.heap.size + 2), .ref a]) rfl (lv_room (Nat.le_of_ble_eq_true rfl)) dX7_init_25 ⟨Nat.le_of_ble_eq_true rfl, Nat.le_of_ble_eq_true rfl⟩ (fun H locs z1 hP hk hS => ?_)
  rw [hzb] at hP
  have h0 := h0.kept (hk _ (by omega) (by omega)) (hk _ (by omega) (by omega))
  have ho := ho.kept (hk _ (by omega) (by omega))
  have h1 := hP
  have hz : H.size = s.heap.size + 4 := by omega
  refine gk_putF (ty := .object "PolicyGate$Row") (v := .ref (s.heap.size + 2)) hx hb hts iwX7 tyX7 tyX7_ok nmX7 hown hK.1 hS (Or.inl rfl) ho rfl 2 (by decide) (hts _ fl_X7_20) (fun _ h9 => h9) rfl hin rfl (by decide +kernel) rfl rfl (Nat.le_of_ble_eq_true rfl) dX7_init_28 (fun H locs ho z1 oq hS => ?_)
  have ho : va_at D vwCl (a, .inr (7, [.null, .ref s.heap.size, .ref (s.heap.size + 2), .null, .null, .null, .null, .int 0, .int 0, .int 0, .int 0])) H := ho
  have h0 := h0.kept (oq _ (by omega)) (oq _ (by omega))
  have h1 := h1.kept (oq _ (by omega)) (oq _ (by omega))
  have hz : H.size = s.heap.size + 4 := by omega
  refine lv_aload_n hx hb dX7_init_31 rfl (lv_at hl 0 rfl) ?_
  refine gk_new (fs := [.null]) hx hb hts iwX2 tyX2 tyX2_ok hown (hts _ cl_X7_9) (hts _ it_X2) (hts _ in_X2) hK.1 hS (ci := 2) rfl df_X2 ⟨Nat.le_of_ble_eq_true rfl, Nat.le_of_ble_eq_true rfl⟩ dX7_init_32 (fun q H hn q1 z1 hk hS => ?_)
  obtain rfl : q = (s.heap.size + 4) := by omega
  have h0 := h0.kept (hk _ (by omega)) (hk _ (by omega))
  have h1 := h1.kept (hk _ (by omega)) (hk _ (by omega))
  have ho := ho.kept (hk _ (by omega))
  have hz : H.size = s.heap.size + 5 := by omega
  refine lv_dup hx hb dX7_init_35 rfl ?_
  refine lv_bipush (v := 12) hx hb dX7_init_36 (by decide) ?_
  refine lv_iconst (v := 0) hx hb dX7_init_38 (by decide) ?_
  have hzb := hz
  refine gk_ctor ⟨hx, hb, hml, hown, hts⟩ (c_X2_init l D cI cZ cG cL (n := 12) (N' := 12) (c9 := 0) (by decide) (by decide) (by decide)) (cwI 2 hts (gk_gI co_X2_init) rfl rfl rfl (hts _ in_X2) (hts _ ml_X7_11) (hts _ im_X2_init) rfl (by decide +kernel) ⟨Nat.le_of_ble_eq_true rfl, Nat.le_of_ble_eq_true rfl⟩) hn hK hS (Or.inr (by omega)) (fun q h => Or.inr h) rfl hl.1 (As := [.int 12, .int 0]) (rest := [.ref (s.heap.size + 4), .ref a]) rfl (lv_room (Nat.le_of_ble_eq_true rfl)) dX7_init_39 ⟨Nat.le_of_ble_eq_true rfl, Nat.le_of_ble_eq_true rfl⟩ (fun H locs z1 hP hk hS => ?_)
  rw [hzb] at hP
  have h0 := h0.kept (hk _ (by omega) (by omega)) (hk _ (by omega) (by omega))
  have h1 := h1.kept (hk _ (by omega) (by omega)) (hk _ (by omega) (by omega))
  have ho := ho.kept (hk _ (by omega) (by omega))
  have h2 := hP
  have hz : H.size = s.heap.size + 6 := by omega
  refine gk_putF (ty := .object "PolicyGate$Row") (v := .ref (s.heap.size + 4)) hx hb hts iwX7 tyX7 tyX7_ok nmX7 hown hK.1 hS (Or.inl rfl) ho rfl 3 (by decide) (hts _ fl_X7_23) (fun _ h9 => h9) rfl hin rfl (by decide +kernel) rfl rfl (Nat.le_of_ble_eq_true rfl) dX7_init_42 (fun H locs ho z1 oq hS => ?_)
  have ho : va_at D vwCl (a, .inr (7, [.null, .ref s.heap.size, .ref (s.heap.size + 2), .ref (s.heap.size + 4), .null, .null, .null, .int 0, .int 0, .int 0, .int 0])) H := ho
  have h0 := h0.kept (oq _ (by omega)) (oq _ (by omega))
  have h1 := h1.kept (oq _ (by omega)) (oq _ (by omega))
  have h2 := h2.kept (oq _ (by omega)) (oq _ (by omega))
  have hz : H.size = s.heap.size + 6 := by omega
  refine lv_aload_n hx hb dX7_init_45 rfl (lv_at hl 0 rfl) ?_
  refine gk_new (fs := [.null]) hx hb hts iwX2 tyX2 tyX2_ok hown (hts _ cl_X7_9) (hts _ it_X2) (hts _ in_X2) hK.1 hS (ci := 2) rfl df_X2 ⟨Nat.le_of_ble_eq_true rfl, Nat.le_of_ble_eq_true rfl⟩ dX7_init_46 (fun q H hn q1 z1 hk hS => ?_)
  obtain rfl : q = (s.heap.size + 6) := by omega
  have h0 := h0.kept (hk _ (by omega)) (hk _ (by omega))
  have h1 := h1.kept (hk _ (by omega)) (hk _ (by omega))
  have h2 := h2.kept (hk _ (by omega)) (hk _ (by omega))
  have ho := ho.kept (hk _ (by omega))
  have hz : H.size = s.heap.size + 7 := by omega
  refine lv_dup hx hb dX7_init_49 rfl ?_
  refine lv_sipush (v := 360) hx hb dX7_init_50 (by decide) ?_
  refine lv_iconst (v := 0) hx hb dX7_init_53 (by decide) ?_
  have hzb := hz
  refine gk_ctor ⟨hx, hb, hml, hown, hts⟩ (c_X2_init l D cI cZ cG cL (n := 360) (N' := 360) (c9 := 0) (by decide) (by decide) (by decide)) (cwI 2 hts (gk_gI co_X2_init) rfl rfl rfl (hts _ in_X2) (hts _ ml_X7_11) (hts _ im_X2_init) rfl (by decide +kernel) ⟨Nat.le_of_ble_eq_true rfl, Nat.le_of_ble_eq_true rfl⟩) hn hK hS (Or.inr (by omega)) (fun q h => Or.inr h) rfl hl.1 (As := [.int 360, .int 0]) (rest := [.ref (s.heap.size + 6), .ref a]) rfl (lv_room (Nat.le_of_ble_eq_true rfl)) dX7_init_54 ⟨Nat.le_of_ble_eq_true rfl, Nat.le_of_ble_eq_true rfl⟩ (fun H locs z1 hP hk hS => ?_)
  rw [hzb] at hP
  have h0 := h0.kept (hk _ (by omega) (by omega)) (hk _ (by omega) (by omega))
  have h1 := h1.kept (hk _ (by omega) (by omega)) (hk _ (by omega) (by omega))
  have h2 := h2.kept (hk _ (by omega) (by omega)) (hk _ (by omega) (by omega))
  have ho := ho.kept (hk _ (by omega) (by omega))
  have h3 := hP
  have hz : H.size = s.heap.size + 8 := by omega
  refine gk_putF (ty := .object "PolicyGate$Row") (v := .ref (s.heap.size + 6)) hx hb hts iwX7 tyX7 tyX7_ok nmX7 hown hK.1 hS (Or.inl rfl) ho rfl 4 (by decide) (hts _ fl_X7_26) (fun _ h9 => h9) rfl hin rfl (by decide +kernel) rfl rfl (Nat.le_of_ble_eq_true rfl) dX7_init_57 (fun H locs ho z1 oq hS => ?_)
  have ho : va_at D vwCl (a, .inr (7, [.null, .ref s.heap.size, .ref (s.heap.size + 2), .ref (s.heap.size + 4), .ref (s.heap.size + 6), .null, .null, .int 0, .int 0, .int 0, .int 0])) H := ho
  have h0 := h0.kept (oq _ (by omega)) (oq _ (by omega))
  have h1 := h1.kept (oq _ (by omega)) (oq _ (by omega))
  have h2 := h2.kept (oq _ (by omega)) (oq _ (by omega))
  have h3 := h3.kept (oq _ (by omega)) (oq _ (by omega))
  have hz : H.size = s.heap.size + 8 := by omega
  refine lv_aload_n hx hb dX7_init_60 rfl (lv_at hl 0 rfl) ?_
  refine gk_new (fs := [.null]) hx hb hts iwX2 tyX2 tyX2_ok hown (hts _ cl_X7_9) (hts _ it_X2) (hts _ in_X2) hK.1 hS (ci := 2) rfl df_X2 ⟨Nat.le_of_ble_eq_true rfl, Nat.le_of_ble_eq_true rfl⟩ dX7_init_61 (fun q H hn q1 z1 hk hS => ?_)
  obtain rfl : q = (s.heap.size + 8) := by omega
  have h0 := h0.kept (hk _ (by omega)) (hk _ (by omega))
  have h1 := h1.kept (hk _ (by omega)) (hk _ (by omega))
  have h2 := h2.kept (hk _ (by omega)) (hk _ (by omega))
  have h3 := h3.kept (hk _ (by omega)) (hk _ (by omega))
  have ho := ho.kept (hk _ (by omega))
  have hz : H.size = s.heap.size + 9 := by omega
  refine lv_dup hx hb dX7_init_64 rfl ?_
  refine lv_bipush (v := 48) hx hb dX7_init_65 (by decide) ?_
  refine lv_iconst (v := 0) hx hb dX7_init_67 (by decide) ?_
  have hzb := hz
  refine gk_ctor ⟨hx, hb, hml, hown, hts⟩ (c_X2_init l D cI cZ cG cL (n := 48) (N' := 48) (c9 := 0) (by decide) (by decide) (by decide)) (cwI 2 hts (gk_gI co_X2_init) rfl rfl rfl (hts _ in_X2) (hts _ ml_X7_11) (hts _ im_X2_init) rfl (by decide +kernel) ⟨Nat.le_of_ble_eq_true rfl, Nat.le_of_ble_eq_true rfl⟩) hn hK hS (Or.inr (by omega)) (fun q h => Or.inr h) rfl hl.1 (As := [.int 48, .int 0]) (rest := [.ref (s.heap.size + 8), .ref a]) rfl (lv_room (Nat.le_of_ble_eq_true rfl)) dX7_init_68 ⟨Nat.le_of_ble_eq_true rfl, Nat.le_of_ble_eq_true rfl⟩ (fun H locs z1 hP hk hS => ?_)
  rw [hzb] at hP
  have h0 := h0.kept (hk _ (by omega) (by omega)) (hk _ (by omega) (by omega))
  have h1 := h1.kept (hk _ (by omega) (by omega)) (hk _ (by omega) (by omega))
  have h2 := h2.kept (hk _ (by omega) (by omega)) (hk _ (by omega) (by omega))
  have h3 := h3.kept (hk _ (by omega) (by omega)) (hk _ (by omega) (by omega))
  have ho := ho.kept (hk _ (by omega) (by omega))
  have h4 := hP
  have hz : H.size = s.heap.size + 10 := by omega
  refine gk_putF (ty := .object "PolicyGate$Row") (v := .ref (s.heap.size + 8)) hx hb hts iwX7 tyX7 tyX7_ok nmX7 hown hK.1 hS (Or.inl rfl) ho rfl 5 (by decide) (hts _ fl_X7_29) (fun _ h9 => h9) rfl hin rfl (by decide +kernel) rfl rfl (Nat.le_of_ble_eq_true rfl) dX7_init_71 (fun H locs ho z1 oq hS => ?_)
  have ho : va_at D vwCl (a, .inr (7, [.null, .ref s.heap.size, .ref (s.heap.size + 2), .ref (s.heap.size + 4), .ref (s.heap.size + 6), .ref (s.heap.size + 8), .null, .int 0, .int 0, .int 0, .int 0])) H := ho
  have h0 := h0.kept (oq _ (by omega)) (oq _ (by omega))
  have h1 := h1.kept (oq _ (by omega)) (oq _ (by omega))
  have h2 := h2.kept (oq _ (by omega)) (oq _ (by omega))
  have h3 := h3.kept (oq _ (by omega)) (oq _ (by omega))
  have h4 := h4.kept (oq _ (by omega)) (oq _ (by omega))
  have hz : H.size = s.heap.size + 10 := by omega
  refine lv_aload_n hx hb dX7_init_74 rfl (lv_at hl 0 rfl) ?_
  refine gk_new (fs := [.null]) hx hb hts iwX2 tyX2 tyX2_ok hown (hts _ cl_X7_9) (hts _ it_X2) (hts _ in_X2) hK.1 hS (ci := 2) rfl df_X2 ⟨Nat.le_of_ble_eq_true rfl, Nat.le_of_ble_eq_true rfl⟩ dX7_init_75 (fun q H hn q1 z1 hk hS => ?_)
  obtain rfl : q = (s.heap.size + 10) := by omega
  have h0 := h0.kept (hk _ (by omega)) (hk _ (by omega))
  have h1 := h1.kept (hk _ (by omega)) (hk _ (by omega))
  have h2 := h2.kept (hk _ (by omega)) (hk _ (by omega))
  have h3 := h3.kept (hk _ (by omega)) (hk _ (by omega))
  have h4 := h4.kept (hk _ (by omega)) (hk _ (by omega))
  have ho := ho.kept (hk _ (by omega))
  have hz : H.size = s.heap.size + 11 := by omega
  refine lv_dup hx hb dX7_init_78 rfl ?_
  refine lv_bipush (v := 30) hx hb dX7_init_79 (by decide) ?_
  refine lv_iconst (v := 0) hx hb dX7_init_81 (by decide) ?_
  have hzb := hz
  refine gk_ctor ⟨hx, hb, hml, hown, hts⟩ (c_X2_init l D cI cZ cG cL (n := 30) (N' := 30) (c9 := 0) (by decide) (by decide) (by decide)) (cwI 2 hts (gk_gI co_X2_init) rfl rfl rfl (hts _ in_X2) (hts _ ml_X7_11) (hts _ im_X2_init) rfl (by decide +kernel) ⟨Nat.le_of_ble_eq_true rfl, Nat.le_of_ble_eq_true rfl⟩) hn hK hS (Or.inr (by omega)) (fun q h => Or.inr h) rfl hl.1 (As := [.int 30, .int 0]) (rest := [.ref (s.heap.size + 10), .ref a]) rfl (lv_room (Nat.le_of_ble_eq_true rfl)) dX7_init_82 ⟨Nat.le_of_ble_eq_true rfl, Nat.le_of_ble_eq_true rfl⟩ (fun H locs z1 hP hk hS => ?_)
  rw [hzb] at hP
  have h0 := h0.kept (hk _ (by omega) (by omega)) (hk _ (by omega) (by omega))
  have h1 := h1.kept (hk _ (by omega) (by omega)) (hk _ (by omega) (by omega))
  have h2 := h2.kept (hk _ (by omega) (by omega)) (hk _ (by omega) (by omega))
  have h3 := h3.kept (hk _ (by omega) (by omega)) (hk _ (by omega) (by omega))
  have h4 := h4.kept (hk _ (by omega) (by omega)) (hk _ (by omega) (by omega))
  have ho := ho.kept (hk _ (by omega) (by omega))
  have h5 := hP
  have hz : H.size = s.heap.size + 12 := by omega
  refine gk_putF (ty := .object "PolicyGate$Row") (v := .ref (s.heap.size + 10)) hx hb hts iwX7 tyX7 tyX7_ok nmX7 hown hK.1 hS (Or.inl rfl) ho rfl 6 (by decide) (hts _ fl_X7_32) (fun _ h9 => h9) rfl hin rfl (by decide +kernel) rfl rfl (Nat.le_of_ble_eq_true rfl) dX7_init_85 (fun H locs ho z1 oq hS => ?_)
  have ho : va_at D vwCl (a, .inr (7, [.null, .ref s.heap.size, .ref (s.heap.size + 2), .ref (s.heap.size + 4), .ref (s.heap.size + 6), .ref (s.heap.size + 8), .ref (s.heap.size + 10), .int 0, .int 0, .int 0, .int 0])) H := ho
  have h0 := h0.kept (oq _ (by omega)) (oq _ (by omega))
  have h1 := h1.kept (oq _ (by omega)) (oq _ (by omega))
  have h2 := h2.kept (oq _ (by omega)) (oq _ (by omega))
  have h3 := h3.kept (oq _ (by omega)) (oq _ (by omega))
  have h4 := h4.kept (oq _ (by omega)) (oq _ (by omega))
  have h5 := h5.kept (oq _ (by omega)) (oq _ (by omega))
  have hz : H.size = s.heap.size + 12 := by omega
  refine lv_aload_n hx hb dX7_init_88 rfl (lv_at hl 0 rfl) ?_
  refine lv_aload_n hx hb dX7_init_89 rfl (lv_at hl 1 rfl) ?_
  refine gk_putF (ty := .object "PolicyGate$Told") (v := .ref b) hx hb hts iwX7 tyX7 tyX7_ok nmX7 hown hK.1 hS (Or.inl rfl) ho rfl 0 (by decide) (hts _ fl_X7_35) (fun _ h9 => h9) rfl hin rfl (by decide +kernel) rfl rfl (Nat.le_of_ble_eq_true rfl) dX7_init_90 (fun H locs ho z1 oq hS => ?_)
  have ho : va_at D vwCl (a, .inr (7, [.ref b, .ref s.heap.size, .ref (s.heap.size + 2), .ref (s.heap.size + 4), .ref (s.heap.size + 6), .ref (s.heap.size + 8), .ref (s.heap.size + 10), .int 0, .int 0, .int 0, .int 0])) H := ho
  have h0 := h0.kept (oq _ (by omega)) (oq _ (by omega))
  have h1 := h1.kept (oq _ (by omega)) (oq _ (by omega))
  have h2 := h2.kept (oq _ (by omega)) (oq _ (by omega))
  have h3 := h3.kept (oq _ (by omega)) (oq _ (by omega))
  have h4 := h4.kept (oq _ (by omega)) (oq _ (by omega))
  have h5 := h5.kept (oq _ (by omega)) (oq _ (by omega))
  have hz : H.size = s.heap.size + 12 := by omega
  exact W.vret hx hb hr (fun t ht _ => ⟨⟨(), rfl, trivial, by rw [ht]; exact hz, by show gk_i7 D cI _ _ _ t.heap; rw [ht]; exact ⟨ho, h0, h1, h2, h3, h4, h5⟩⟩, hS.F ht⟩) hS.2.2 dX7_init_93 (hlocks := hlocks)
def gk_i4 (D : va_G) (cI : ClassId) (a q : Nat) (H : Heap) : Prop := va_at D vwCl (a, .inr (4, [.ref q, .ref (q + 9), .ref (q + 14), .ref (q + 25), .ref (q + 44), .int 0, .int 0])) H ∧ gk_i6 D cI q (q + 1) H ∧ gk_i1 D cI (q + 9) (q + 10) H ∧ gk_i5 D cI (q + 14) (q + 15) H ∧ gk_i3 D cI (q + 25) (q + 26) H ∧ gk_i0 D cI (q + 44) (q + 45) H
theorem gk_i4.kept {D : va_G} {cI : ClassId} {a q : Nat} {H H1 : Heap} (h : gk_i4 D cI a q H) (hq : ∀ z : Nat, z = a ∨ (q ≤ z ∧ z < q + 57) → H1[z]? = H[z]?) : gk_i4 D cI a q H1 := by
  obtain ⟨ho, h0, h1, h2, h3, h4⟩ := h
  exact ⟨ho.kept (hq _ (Or.inl rfl)), h0.kept (fun z hz => hq z (Or.inr (by omega))), h1.kept (fun z hz => hq z (Or.inr (by omega))), h2.kept (fun z hz => hq z (Or.inr (by omega))), h3.kept (fun z hz => hq z (Or.inr (by omega))), h4.kept (fun z hz => hq z (Or.inr (by omega)))⟩
abbrev rmX4_init : Room := { frames := 3, cells := 57, slots := 976, locals := 65 }
set_option maxHeartbeats 4000000 in
set_option maxRecDepth 100000 in
theorem c_X4_init (l : Launch) (D : va_G) (cI cZ cG cL : ClassId) {a sz : Nat} : Met l yX4_init wsX4_init rmX4_init (gk_Pi D cI cZ cG cL [.ref a] a (.inr (4, [.null, .null, .null, .null, .null, .int 0, .int 0])) sz) (gk_Qc (gk_i4 D cI a sz) a sz 57) 57 976 (gk_cA a sz) := by
  refine Met.ofW (cc := cX4_init) (maxL := 1) (ret := none) (by decide) rfl ?_
  intro p e s m args below meth c s₁ B hml0 hv0
  obtain ⟨rfl, hsz, ho, hK⟩ := hv0
  subst hsz
  have C0 : gk_F p s m ([.ref a] : List Value).toArray meth c cX4_init 1 none RX4 := ⟨B.exec, B.bytes, hml0, findClass_of_methodNamed B.named, fun w hw => atoms_spec (ws := wsX4_init) B.pre w (List.mem_cons_of_mem _ hw), B.returns, B.notSynchronized⟩
  obtain ⟨hx, hb, hml, hown, hts, hr, hlocks⟩ := id C0
  have hin : meth.name = "<init>" := (name_of_methodNamed B.named B.method).1
  have ha0 : a < s.heap.size := ho.lt
  have hS : va_S (gk_cA a s.heap.size) s.heap s.heap [] := va_S.rf
  have hz : s.heap.size = s.heap.size + 0 := rfl
  have hl := lv_entry ([.ref a]) (n := 1) (Nat.le_of_ble_eq_true rfl)
  rw [lg_entry_eq]
  generalize (lg_sl ([.ref a]) ++ List.replicate (1 - (lg_sl ([.ref a])).length) Slot.unset).toArray = ls at hl ⊢
  have hl : lv_has ls 1 [(0, .ref a)] := hl
  show W p l e rmX4_init s m _ below meth c s.heap [] 0 0 _ _
  refine lv_aload_n hx hb dX4_init_0 rfl (lv_at hl 0 rfl) ?_
  refine W.objInit hx hb hown (hts _ oi_X4) (hts _ gk_oi1) (hts _ gk_oi2) rfl (by rw [hml]; exact hl.1) rfl dX4_init_1 (Nat.le_of_ble_eq_true rfl) (Nat.le_of_ble_eq_true rfl) ?_
  refine W.eq (g2 := F0 m 4 ls []) rfl ?_
  refine lv_aload_n hx hb dX4_init_4 rfl (lv_at hl 0 rfl) ?_
  refine gk_new (fs := [.int 0, .null, .null, .null, .null]) hx hb hts iwX6 tyX6 tyX6_ok hown (hts _ cl_X4_7) (hts _ it_X6) (hts _ in_X6) hK.1 hS (ci := 6) rfl df_X6 ⟨Nat.le_of_ble_eq_true rfl, Nat.le_of_ble_eq_true rfl⟩ dX4_init_5 (fun q H hn q1 z1 hk hS => ?_)
  obtain rfl : q = s.heap.size := by omega
  have ho := ho.kept (hk _ (by omega))
  have hz : H.size = s.heap.size + 1 := by omega
  refine lv_dup hx hb dX4_init_8 rfl ?_
  have hzb := hz
  refine gk_ctorN ⟨hx, hb, hml, hown, hts⟩ (c_X6_init l D cI cZ cG cL) ⟨va_cnB 0 hts (gk_gI co_X6_init) rfl rfl rfl (gk_nw hK nm_X4_9) (hts _ in_X6) (by decide +kernel) ⟨Nat.le_of_ble_eq_true rfl, Nat.le_of_ble_eq_true rfl⟩, rfl, hts _ im_X6_init⟩ hn hK hS (Or.inr (by omega)) (fun q h => Or.inr h) rfl hl.1 (As := []) (rest := [.ref s.heap.size, .ref a]) rfl (lv_room (Nat.le_of_ble_eq_true rfl)) dX4_init_9 ⟨Nat.le_of_ble_eq_true rfl, Nat.le_of_ble_eq_true rfl⟩ (fun H locs z1 hP hk hS => ?_)
  rw [hzb] at hP
  have ho := ho.kept (hk _ (by omega) (by omega))
  have h0 := hP
  have hz : H.size = s.heap.size + 9 := by omega
  refine gk_putF (ty := .object "PolicyGate$Users") (v := .ref s.heap.size) hx hb hts iwX4 tyX4 tyX4_ok nmX4 hown hK.1 hS (Or.inl rfl) ho rfl 0 (by decide) (hts _ fl_X4_10) (fun _ h9 => h9) rfl hin rfl (by decide +kernel) rfl rfl (Nat.le_of_ble_eq_true rfl) dX4_init_12 (fun H locs ho z1 oq hS => ?_)
  have ho : va_at D vwCl (a, .inr (4, [.ref s.heap.size, .null, .null, .null, .null, .int 0, .int 0])) H := ho
  have h0 := h0.kept (fun z _ => oq _ (by omega))
  have hz : H.size = s.heap.size + 9 := by omega
  refine lv_aload_n hx hb dX4_init_15 rfl (lv_at hl 0 rfl) ?_
  refine gk_new (fs := [.int 0, .int 0, .null, .null]) hx hb hts iwX1 tyX1 tyX1_ok hown (hts _ cl_X4_16) (hts _ it_X1) (hts _ in_X1) hK.1 hS (ci := 1) rfl df_X1 ⟨Nat.le_of_ble_eq_true rfl, Nat.le_of_ble_eq_true rfl⟩ dX4_init_16 (fun q H hn q1 z1 hk hS => ?_)
  obtain rfl : q = (s.heap.size + 9) := by omega
  have h0 := h0.kept (fun z _ => hk _ (by omega))
  have ho := ho.kept (hk _ (by omega))
  have hz : H.size = s.heap.size + 10 := by omega
  refine lv_dup hx hb dX4_init_19 rfl ?_
  have hzb := hz
  refine gk_ctorN ⟨hx, hb, hml, hown, hts⟩ (c_X1_init l D cI cZ cG cL) ⟨va_cnB 0 hts (gk_gI co_X1_init) rfl rfl rfl (gk_nw hK nm_X4_18) (hts _ in_X1) (by decide +kernel) ⟨Nat.le_of_ble_eq_true rfl, Nat.le_of_ble_eq_true rfl⟩, rfl, hts _ im_X1_init⟩ hn hK hS (Or.inr (by omega)) (fun q h => Or.inr h) rfl hl.1 (As := []) (rest := [.ref (s.heap.size + 9), .ref a]) rfl (lv_room (Nat.le_of_ble_eq_true rfl)) dX4_init_20 ⟨Nat.le_of_ble_eq_true rfl, Nat.le_of_ble_eq_true rfl⟩ (fun H locs z1 hP hk hS => ?_)
  rw [hzb] at hP
  have h0 := h0.kept (fun z _ => hk _ (by omega) (by omega))
  have ho := ho.kept (hk _ (by omega) (by omega))
  have h1 := hP
  have hz : H.size = s.heap.size + 14 := by omega
  refine gk_putF (ty := .object "PolicyGate$Roles") (v := .ref (s.heap.size + 9)) hx hb hts iwX4 tyX4 tyX4_ok nmX4 hown hK.1 hS (Or.inl rfl) ho rfl 1 (by decide) (hts _ fl_X4_19) (fun _ h9 => h9) rfl hin rfl (by decide +kernel) rfl rfl (Nat.le_of_ble_eq_true rfl) dX4_init_23 (fun H locs ho z1 oq hS => ?_)
  have ho : va_at D vwCl (a, .inr (4, [.ref s.heap.size, .ref (s.heap.size + 9), .null, .null, .null, .int 0, .int 0])) H := ho
  have h0 := h0.kept (fun z _ => oq _ (by omega))
  have h1 := h1.kept (fun z _ => oq _ (by omega))
  have hz : H.size = s.heap.size + 14 := by omega
  refine lv_aload_n hx hb dX4_init_26 rfl (lv_at hl 0 rfl) ?_
  refine gk_new (fs := [.int 0, .null, .null, .null, .null, .null]) hx hb hts iwX5 tyX5 tyX5_ok hown (hts _ cl_X4_23) (hts _ it_X5) (hts _ in_X5) hK.1 hS (ci := 5) rfl df_X5 ⟨Nat.le_of_ble_eq_true rfl, Nat.le_of_ble_eq_true rfl⟩ dX4_init_27 (fun q H hn q1 z1 hk hS => ?_)
  obtain rfl : q = (s.heap.size + 14) := by omega
  have h0 := h0.kept (fun z _ => hk _ (by omega))
  have h1 := h1.kept (fun z _ => hk _ (by omega))
  have ho := ho.kept (hk _ (by omega))
  have hz : H.size = s.heap.size + 15 := by omega
  refine lv_dup hx hb dX4_init_30 rfl ?_
  have hzb := hz
  refine gk_ctorN ⟨hx, hb, hml, hown, hts⟩ (c_X5_init l D cI cZ cG cL) ⟨va_cnB 0 hts (gk_gI co_X5_init) rfl rfl rfl (gk_nw hK nm_X4_25) (hts _ in_X5) (by decide +kernel) ⟨Nat.le_of_ble_eq_true rfl, Nat.le_of_ble_eq_true rfl⟩, rfl, hts _ im_X5_init⟩ hn hK hS (Or.inr (by omega)) (fun q h => Or.inr h) rfl hl.1 (As := []) (rest := [.ref (s.heap.size + 14), .ref a]) rfl (lv_room (Nat.le_of_ble_eq_true rfl)) dX4_init_31 ⟨Nat.le_of_ble_eq_true rfl, Nat.le_of_ble_eq_true rfl⟩ (fun H locs z1 hP hk hS => ?_)
  rw [hzb] at hP
  have h0 := h0.kept (fun z _ => hk _ (by omega) (by omega))
  have h1 := h1.kept (fun z _ => hk _ (by omega) (by omega))
  have ho := ho.kept (hk _ (by omega) (by omega))
  have h2 := hP
  have hz : H.size = s.heap.size + 25 := by omega
  refine gk_putF (ty := .object "PolicyGate$Tree") (v := .ref (s.heap.size + 14)) hx hb hts iwX4 tyX4 tyX4_ok nmX4 hown hK.1 hS (Or.inl rfl) ho rfl 2 (by decide) (hts _ fl_X4_26) (fun _ h9 => h9) rfl hin rfl (by decide +kernel) rfl rfl (Nat.le_of_ble_eq_true rfl) dX4_init_34 (fun H locs ho z1 oq hS => ?_)
  have ho : va_at D vwCl (a, .inr (4, [.ref s.heap.size, .ref (s.heap.size + 9), .ref (s.heap.size + 14), .null, .null, .int 0, .int 0])) H := ho
  have h0 := h0.kept (fun z _ => oq _ (by omega))
  have h1 := h1.kept (fun z _ => oq _ (by omega))
  have h2 := h2.kept (fun z _ => oq _ (by omega))
  have hz : H.size = s.heap.size + 25 := by omega
  refine lv_aload_n hx hb dX4_init_37 rfl (lv_at hl 0 rfl) ?_
  refine gk_new (fs := [.int 0, .null, .null, .null, .null, .null, .null, .null, .null, .null]) hx hb hts iwX3 tyX3 tyX3_ok hown (hts _ cl_X4_30) (hts _ it_X3) (hts _ in_X3) hK.1 hS (ci := 3) rfl df_X3 ⟨Nat.le_of_ble_eq_true rfl, Nat.le_of_ble_eq_true rfl⟩ dX4_init_38 (fun q H hn q1 z1 hk hS => ?_)
  obtain rfl : q = (s.heap.size + 25) := by omega
  have h0 := h0.kept (fun z _ => hk _ (by omega))
  have h1 := h1.kept (fun z _ => hk _ (by omega))
  have h2 := h2.kept (fun z _ => hk _ (by omega))
  have ho := ho.kept (hk _ (by omega))
  have hz : H.size = s.heap.size + 26 := by omega
  refine lv_dup hx hb dX4_init_41 rfl ?_
  have hzb := hz
  refine gk_ctorN ⟨hx, hb, hml, hown, hts⟩ (c_X3_init l D cI cZ cG cL) ⟨va_cnB 0 hts (gk_gI co_X3_init) rfl rfl rfl (gk_nw hK nm_X4_32) (hts _ in_X3) (by decide +kernel) ⟨Nat.le_of_ble_eq_true rfl, Nat.le_of_ble_eq_true rfl⟩, rfl, hts _ im_X3_init⟩ hn hK hS (Or.inr (by omega)) (fun q h => Or.inr h) rfl hl.1 (As := []) (rest := [.ref (s.heap.size + 25), .ref a]) rfl (lv_room (Nat.le_of_ble_eq_true rfl)) dX4_init_42 ⟨Nat.le_of_ble_eq_true rfl, Nat.le_of_ble_eq_true rfl⟩ (fun H locs z1 hP hk hS => ?_)
  rw [hzb] at hP
  have h0 := h0.kept (fun z _ => hk _ (by omega) (by omega))
  have h1 := h1.kept (fun z _ => hk _ (by omega) (by omega))
  have h2 := h2.kept (fun z _ => hk _ (by omega) (by omega))
  have ho := ho.kept (hk _ (by omega) (by omega))
  have h3 := hP
  have hz : H.size = s.heap.size + 44 := by omega
  refine gk_putF (ty := .object "PolicyGate$Rules") (v := .ref (s.heap.size + 25)) hx hb hts iwX4 tyX4 tyX4_ok nmX4 hown hK.1 hS (Or.inl rfl) ho rfl 3 (by decide) (hts _ fl_X4_33) (fun _ h9 => h9) rfl hin rfl (by decide +kernel) rfl rfl (Nat.le_of_ble_eq_true rfl) dX4_init_45 (fun H locs ho z1 oq hS => ?_)
  have ho : va_at D vwCl (a, .inr (4, [.ref s.heap.size, .ref (s.heap.size + 9), .ref (s.heap.size + 14), .ref (s.heap.size + 25), .null, .int 0, .int 0])) H := ho
  have h0 := h0.kept (fun z _ => oq _ (by omega))
  have h1 := h1.kept (fun z _ => oq _ (by omega))
  have h2 := h2.kept (fun z _ => oq _ (by omega))
  have h3 := h3.kept (fun z _ => oq _ (by omega))
  have hz : H.size = s.heap.size + 44 := by omega
  refine lv_aload_n hx hb dX4_init_48 rfl (lv_at hl 0 rfl) ?_
  refine gk_new (fs := [.int 0, .null, .null, .null, .null, .null, .null]) hx hb hts iwX0 tyX0 tyX0_ok hown (hts _ cl_X4_37) (hts _ it_X0) (hts _ in_X0) hK.1 hS (ci := 0) rfl df_X0 ⟨Nat.le_of_ble_eq_true rfl, Nat.le_of_ble_eq_true rfl⟩ dX4_init_49 (fun q H hn q1 z1 hk hS => ?_)
  obtain rfl : q = (s.heap.size + 44) := by omega
  have h0 := h0.kept (fun z _ => hk _ (by omega))
  have h1 := h1.kept (fun z _ => hk _ (by omega))
  have h2 := h2.kept (fun z _ => hk _ (by omega))
  have h3 := h3.kept (fun z _ => hk _ (by omega))
  have ho := ho.kept (hk _ (by omega))
  have hz : H.size = s.heap.size + 45 := by omega
  refine lv_dup hx hb dX4_init_52 rfl ?_
  have hzb := hz
  refine gk_ctorN ⟨hx, hb, hml, hown, hts⟩ (c_X0_init l D cI cZ cG cL) ⟨va_cnB 0 hts (gk_gI co_X0_init) rfl rfl rfl (gk_nw hK nm_X4_39) (hts _ in_X0) (by decide +kernel) ⟨Nat.le_of_ble_eq_true rfl, Nat.le_of_ble_eq_true rfl⟩, rfl, hts _ im_X0_init⟩ hn hK hS (Or.inr (by omega)) (fun q h => Or.inr h) rfl hl.1 (As := []) (rest := [.ref (s.heap.size + 44), .ref a]) rfl (lv_room (Nat.le_of_ble_eq_true rfl)) dX4_init_53 ⟨Nat.le_of_ble_eq_true rfl, Nat.le_of_ble_eq_true rfl⟩ (fun H locs z1 hP hk hS => ?_)
  rw [hzb] at hP
  have h0 := h0.kept (fun z _ => hk _ (by omega) (by omega))
  have h1 := h1.kept (fun z _ => hk _ (by omega) (by omega))
  have h2 := h2.kept (fun z _ => hk _ (by omega) (by omega))
  have h3 := h3.kept (fun z _ => hk _ (by omega) (by omega))
  have ho := ho.kept (hk _ (by omega) (by omega))
  have h4 := hP
  have hz : H.size = s.heap.size + 57 := by omega
  refine gk_putF (ty := .object "PolicyGate$Grants") (v := .ref (s.heap.size + 44)) hx hb hts iwX4 tyX4 tyX4_ok nmX4 hown hK.1 hS (Or.inl rfl) ho rfl 4 (by decide) (hts _ fl_X4_40) (fun _ h9 => h9) rfl hin rfl (by decide +kernel) rfl rfl (Nat.le_of_ble_eq_true rfl) dX4_init_56 (fun H locs ho z1 oq hS => ?_)
  have ho : va_at D vwCl (a, .inr (4, [.ref s.heap.size, .ref (s.heap.size + 9), .ref (s.heap.size + 14), .ref (s.heap.size + 25), .ref (s.heap.size + 44), .int 0, .int 0])) H := ho
  have h0 := h0.kept (fun z _ => oq _ (by omega))
  have h1 := h1.kept (fun z _ => oq _ (by omega))
  have h2 := h2.kept (fun z _ => oq _ (by omega))
  have h3 := h3.kept (fun z _ => oq _ (by omega))
  have h4 := h4.kept (fun z _ => oq _ (by omega))
  have hz : H.size = s.heap.size + 57 := by omega
  exact W.vret hx hb hr (fun t ht _ => ⟨⟨(), rfl, trivial, by rw [ht]; exact hz, by show gk_i4 D cI _ _ t.heap; rw [ht]; exact ⟨ho, h0, h1, h2, h3, h4⟩⟩, hS.F ht⟩) hS.2.2 dX4_init_59 (hlocks := hlocks)
def gk_i8 (D : va_G) (cI : ClassId) (a q : Nat) (H : Heap) : Prop := va_at D vwCl (a, .inr (8, [.ref q, .ref (q + 58), .ref (q + 71), .ref (q + 84)])) H ∧ gk_i4 D cI q (q + 1) H ∧ gk_i7 D cI (q + 58) (q + 59) q H ∧ gk_i7 D cI (q + 71) (q + 72) q H ∧ gk_rw D cI (q + 84) (q + 85) 6 0 H
theorem gk_i8.kept {D : va_G} {cI : ClassId} {a q : Nat} {H H1 : Heap} (h : gk_i8 D cI a q H) (hq : ∀ z : Nat, z = a ∨ (q ≤ z ∧ z < q + 86) → H1[z]? = H[z]?) : gk_i8 D cI a q H1 := by
  obtain ⟨ho, h0, h1, h2, h3⟩ := h
  exact ⟨ho.kept (hq _ (Or.inl rfl)), h0.kept (fun z hz => hq z (Or.inr (by omega))), h1.kept (fun z hz => hq z (Or.inr (by omega))), h2.kept (fun z hz => hq z (Or.inr (by omega))), h3.kept (hq _ (Or.inr ⟨by omega, by omega⟩)) (hq _ (Or.inr ⟨by omega, by omega⟩))⟩
abbrev rmX8_init : Room := { frames := 4, cells := 86, slots := 1982, locals := 85 }
set_option maxHeartbeats 4000000 in
set_option maxRecDepth 100000 in
theorem c_X8_init (l : Launch) (D : va_G) (cI cZ cG cL : ClassId) {a sz : Nat} : Met l yX8_init wsX8_init rmX8_init (gk_Pi D cI cZ cG cL [.ref a] a (.inr (8, [.null, .null, .null, .null])) sz) (gk_Qc (gk_i8 D cI a sz) a sz 86) 86 1982 (gk_cA a sz) := by
  refine Met.ofW (cc := cX8_init) (maxL := 2) (ret := none) (by decide) rfl ?_
  intro p e s m args below meth c s₁ B hml0 hv0
  obtain ⟨rfl, hsz, ho, hK⟩ := hv0
  subst hsz
  have C0 : gk_F p s m ([.ref a] : List Value).toArray meth c cX8_init 2 none RX8 := ⟨B.exec, B.bytes, hml0, findClass_of_methodNamed B.named, fun w hw => atoms_spec (ws := wsX8_init) B.pre w (List.mem_cons_of_mem _ hw), B.returns, B.notSynchronized⟩
  obtain ⟨hx, hb, hml, hown, hts, hr, hlocks⟩ := id C0
  have hin : meth.name = "<init>" := (name_of_methodNamed B.named B.method).1
  have ha0 : a < s.heap.size := ho.lt
  have hS : va_S (gk_cA a s.heap.size) s.heap s.heap [] := va_S.rf
  have hz : s.heap.size = s.heap.size + 0 := rfl
  have hl := lv_entry ([.ref a]) (n := 2) (Nat.le_of_ble_eq_true rfl)
  rw [lg_entry_eq]
  generalize (lg_sl ([.ref a]) ++ List.replicate (2 - (lg_sl ([.ref a])).length) Slot.unset).toArray = ls at hl ⊢
  have hl : lv_has ls 2 [(0, .ref a)] := hl
  show W p l e rmX8_init s m _ below meth c s.heap [] 0 0 _ _
  refine lv_aload_n hx hb dX8_init_0 rfl (lv_at hl 0 rfl) ?_
  refine W.objInit hx hb hown (hts _ oi_X8) (hts _ gk_oi1) (hts _ gk_oi2) rfl (by rw [hml]; exact hl.1) rfl dX8_init_1 (Nat.le_of_ble_eq_true rfl) (Nat.le_of_ble_eq_true rfl) ?_
  refine W.eq (g2 := F0 m 4 ls []) rfl ?_
  refine gk_new (fs := [.null, .null, .null, .null, .null, .int 0, .int 0]) hx hb hts iwX4 tyX4 tyX4_ok hown (hts _ cl_X8_7) (hts _ it_X4) (hts _ in_X4) hK.1 hS (ci := 4) rfl df_X4 ⟨Nat.le_of_ble_eq_true rfl, Nat.le_of_ble_eq_true rfl⟩ dX8_init_4 (fun q H hn q1 z1 hk hS => ?_)
  obtain rfl : q = s.heap.size := by omega
  have ho := ho.kept (hk _ (by omega))
  have hz : H.size = s.heap.size + 1 := by omega
  refine lv_dup hx hb dX8_init_7 rfl ?_
  have hzb := hz
  refine gk_ctorN ⟨hx, hb, hml, hown, hts⟩ (c_X4_init l D cI cZ cG cL) ⟨va_cnB 0 hts (gk_gI co_X4_init) rfl rfl rfl (gk_nw hK nm_X8_9) (hts _ in_X4) (by decide +kernel) ⟨Nat.le_of_ble_eq_true rfl, Nat.le_of_ble_eq_true rfl⟩, rfl, hts _ im_X4_init⟩ hn hK hS (Or.inr (by omega)) (fun q h => Or.inr h) rfl hl.1 (As := []) (rest := [.ref s.heap.size]) rfl (lv_room (Nat.le_of_ble_eq_true rfl)) dX8_init_8 ⟨Nat.le_of_ble_eq_true rfl, Nat.le_of_ble_eq_true rfl⟩ (fun H locs z1 hP hk hS => ?_)
  rw [hzb] at hP
  have ho := ho.kept (hk _ (by omega) (by omega))
  have h0 := hP
  have hz : H.size = s.heap.size + 58 := by omega
  refine lv_astore_n (lv' := [(1, .ref s.heap.size), (0, .ref a)]) hx hb dX8_init_11 rfl hl (by decide) rfl (fun ls hl => ?_)
  refine lv_aload_n hx hb dX8_init_12 rfl (lv_at hl 1 rfl) ?_
  refine lv_aload_n hx hb dX8_init_13 rfl (lv_at hl 0 rfl) ?_
  refine gk_putF (ty := .object "PolicyGate$Told") (v := .ref s.heap.size) hx hb hts iwX8 tyX8 tyX8_ok nmX8 hown hK.1 hS (Or.inl rfl) ho rfl 0 (by decide) (hts _ fl_X8_10) (fun _ h9 => h9) rfl hin rfl (by decide +kernel) rfl rfl (Nat.le_of_ble_eq_true rfl) dX8_init_14 (fun H locs ho z1 oq hS => ?_)
  have ho : va_at D vwCl (a, .inr (8, [.ref s.heap.size, .null, .null, .null])) H := ho
  have h0 := h0.kept (fun z _ => oq _ (by omega))
  have hz : H.size = s.heap.size + 58 := by omega
  refine lv_aload_n hx hb dX8_init_17 rfl (lv_at hl 1 rfl) ?_
  refine gk_new (fs := [.null, .null, .null, .null, .null, .null, .null, .int 0, .int 0, .int 0, .int 0]) hx hb hts iwX7 tyX7 tyX7_ok hown (hts _ cl_X8_16) (hts _ it_X7) (hts _ in_X7) hK.1 hS (ci := 7) rfl df_X7 ⟨Nat.le_of_ble_eq_true rfl, Nat.le_of_ble_eq_true rfl⟩ dX8_init_18 (fun q H hn q1 z1 hk hS => ?_)
  obtain rfl : q = (s.heap.size + 58) := by omega
  have h0 := h0.kept (fun z _ => hk _ (by omega))
  have ho := ho.kept (hk _ (by omega))
  have hz : H.size = s.heap.size + 59 := by omega
  refine lv_dup hx hb dX8_init_21 rfl ?_
  refine lv_aload_n hx hb dX8_init_22 rfl (lv_at hl 0 rfl) ?_
  have hzb := hz
  refine gk_ctor ⟨hx, hb, hml, hown, hts⟩ (c_X7_init l D cI cZ cG cL (b := s.heap.size)) (cwI 1 hts (gk_gI co_X7_init) rfl rfl rfl (hts _ in_X7) (hts _ ml_X8_18) (hts _ im_X7_init) rfl (by decide +kernel) ⟨Nat.le_of_ble_eq_true rfl, Nat.le_of_ble_eq_true rfl⟩) hn hK hS (Or.inr (by omega)) (fun q h => Or.inr h) rfl hl.1 (As := [.ref s.heap.size]) (rest := [.ref (s.heap.size + 58), .ref a]) rfl (lv_room (Nat.le_of_ble_eq_true rfl)) dX8_init_23 ⟨Nat.le_of_ble_eq_true rfl, Nat.le_of_ble_eq_true rfl⟩ (fun H locs z1 hP hk hS => ?_)
  rw [hzb] at hP
  have h0 := h0.kept (fun z _ => hk _ (by omega) (by omega))
  have ho := ho.kept (hk _ (by omega) (by omega))
  have h1 := hP
  have hz : H.size = s.heap.size + 71 := by omega
  refine gk_putF (ty := .object "PolicyGate$View") (v := .ref (s.heap.size + 58)) hx hb hts iwX8 tyX8 tyX8_ok nmX8 hown hK.1 hS (Or.inl rfl) ho rfl 1 (by decide) (hts _ fl_X8_21) (fun _ h9 => h9) rfl hin rfl (by decide +kernel) rfl rfl (Nat.le_of_ble_eq_true rfl) dX8_init_26 (fun H locs ho z1 oq hS => ?_)
  have ho : va_at D vwCl (a, .inr (8, [.ref s.heap.size, .ref (s.heap.size + 58), .null, .null])) H := ho
  have h0 := h0.kept (fun z _ => oq _ (by omega))
  have h1 := h1.kept (fun z _ => oq _ (by omega))
  have hz : H.size = s.heap.size + 71 := by omega
  refine lv_aload_n hx hb dX8_init_29 rfl (lv_at hl 1 rfl) ?_
  refine gk_new (fs := [.null, .null, .null, .null, .null, .null, .null, .int 0, .int 0, .int 0, .int 0]) hx hb hts iwX7 tyX7 tyX7_ok hown (hts _ cl_X8_16) (hts _ it_X7) (hts _ in_X7) hK.1 hS (ci := 7) rfl df_X7 ⟨Nat.le_of_ble_eq_true rfl, Nat.le_of_ble_eq_true rfl⟩ dX8_init_30 (fun q H hn q1 z1 hk hS => ?_)
  obtain rfl : q = (s.heap.size + 71) := by omega
  have h0 := h0.kept (fun z _ => hk _ (by omega))
  have h1 := h1.kept (fun z _ => hk _ (by omega))
  have ho := ho.kept (hk _ (by omega))
  have hz : H.size = s.heap.size + 72 := by omega
  refine lv_dup hx hb dX8_init_33 rfl ?_
  refine lv_aload_n hx hb dX8_init_34 rfl (lv_at hl 0 rfl) ?_
  have hzb := hz
  refine gk_ctor ⟨hx, hb, hml, hown, hts⟩ (c_X7_init l D cI cZ cG cL (b := s.heap.size)) (cwI 1 hts (gk_gI co_X7_init) rfl rfl rfl (hts _ in_X7) (hts _ ml_X8_18) (hts _ im_X7_init) rfl (by decide +kernel) ⟨Nat.le_of_ble_eq_true rfl, Nat.le_of_ble_eq_true rfl⟩) hn hK hS (Or.inr (by omega)) (fun q h => Or.inr h) rfl hl.1 (As := [.ref s.heap.size]) (rest := [.ref (s.heap.size + 71), .ref a]) rfl (lv_room (Nat.le_of_ble_eq_true rfl)) dX8_init_35 ⟨Nat.le_of_ble_eq_true rfl, Nat.le_of_ble_eq_true rfl⟩ (fun H locs z1 hP hk hS => ?_)
  rw [hzb] at hP
  have h0 := h0.kept (fun z _ => hk _ (by omega) (by omega))
  have h1 := h1.kept (fun z _ => hk _ (by omega) (by omega))
  have ho := ho.kept (hk _ (by omega) (by omega))
  have h2 := hP
  have hz : H.size = s.heap.size + 84 := by omega
  refine gk_putF (ty := .object "PolicyGate$View") (v := .ref (s.heap.size + 71)) hx hb hts iwX8 tyX8 tyX8_ok nmX8 hown hK.1 hS (Or.inl rfl) ho rfl 2 (by decide) (hts _ fl_X8_25) (fun _ h9 => h9) rfl hin rfl (by decide +kernel) rfl rfl (Nat.le_of_ble_eq_true rfl) dX8_init_38 (fun H locs ho z1 oq hS => ?_)
  have ho : va_at D vwCl (a, .inr (8, [.ref s.heap.size, .ref (s.heap.size + 58), .ref (s.heap.size + 71), .null])) H := ho
  have h0 := h0.kept (fun z _ => oq _ (by omega))
  have h1 := h1.kept (fun z _ => oq _ (by omega))
  have h2 := h2.kept (fun z _ => oq _ (by omega))
  have hz : H.size = s.heap.size + 84 := by omega
  refine lv_aload_n hx hb dX8_init_41 rfl (lv_at hl 1 rfl) ?_
  refine gk_new (fs := [.null]) hx hb hts iwX2 tyX2 tyX2_ok hown (hts _ cl_X8_28) (hts _ it_X2) (hts _ in_X2) hK.1 hS (ci := 2) rfl df_X2 ⟨Nat.le_of_ble_eq_true rfl, Nat.le_of_ble_eq_true rfl⟩ dX8_init_42 (fun q H hn q1 z1 hk hS => ?_)
  obtain rfl : q = (s.heap.size + 84) := by omega
  have h0 := h0.kept (fun z _ => hk _ (by omega))
  have h1 := h1.kept (fun z _ => hk _ (by omega))
  have h2 := h2.kept (fun z _ => hk _ (by omega))
  have ho := ho.kept (hk _ (by omega))
  have hz : H.size = s.heap.size + 85 := by omega
  refine lv_dup hx hb dX8_init_45 rfl ?_
  refine lv_bipush (v := 6) hx hb dX8_init_46 (by decide) ?_
  refine lv_iconst (v := 0) hx hb dX8_init_48 (by decide) ?_
  have hzb := hz
  refine gk_ctor ⟨hx, hb, hml, hown, hts⟩ (c_X2_init l D cI cZ cG cL (n := 6) (N' := 6) (c9 := 0) (by decide) (by decide) (by decide)) (cwI 2 hts (gk_gI co_X2_init) rfl rfl rfl (hts _ in_X2) (hts _ ml_X8_30) (hts _ im_X2_init) rfl (by decide +kernel) ⟨Nat.le_of_ble_eq_true rfl, Nat.le_of_ble_eq_true rfl⟩) hn hK hS (Or.inr (by omega)) (fun q h => Or.inr h) rfl hl.1 (As := [.int 6, .int 0]) (rest := [.ref (s.heap.size + 84), .ref a]) rfl (lv_room (Nat.le_of_ble_eq_true rfl)) dX8_init_49 ⟨Nat.le_of_ble_eq_true rfl, Nat.le_of_ble_eq_true rfl⟩ (fun H locs z1 hP hk hS => ?_)
  rw [hzb] at hP
  have h0 := h0.kept (fun z _ => hk _ (by omega) (by omega))
  have h1 := h1.kept (fun z _ => hk _ (by omega) (by omega))
  have h2 := h2.kept (fun z _ => hk _ (by omega) (by omega))
  have ho := ho.kept (hk _ (by omega) (by omega))
  have h3 := hP
  have hz : H.size = s.heap.size + 86 := by omega
  refine gk_putF (ty := .object "PolicyGate$Row") (v := .ref (s.heap.size + 84)) hx hb hts iwX8 tyX8 tyX8_ok nmX8 hown hK.1 hS (Or.inl rfl) ho rfl 3 (by decide) (hts _ fl_X8_33) (fun _ h9 => h9) rfl hin rfl (by decide +kernel) rfl rfl (Nat.le_of_ble_eq_true rfl) dX8_init_52 (fun H locs ho z1 oq hS => ?_)
  have ho : va_at D vwCl (a, .inr (8, [.ref s.heap.size, .ref (s.heap.size + 58), .ref (s.heap.size + 71), .ref (s.heap.size + 84)])) H := ho
  have h0 := h0.kept (fun z _ => oq _ (by omega))
  have h1 := h1.kept (fun z _ => oq _ (by omega))
  have h2 := h2.kept (fun z _ => oq _ (by omega))
  have h3 := h3.kept (oq _ (by omega)) (oq _ (by omega))
  have hz : H.size = s.heap.size + 86 := by omega
  exact W.vret hx hb hr (fun t ht _ => ⟨⟨(), rfl, trivial, by rw [ht]; exact hz, by show gk_i8 D cI _ _ t.heap; rw [ht]; exact ⟨ho, h0, h1, h2, h3⟩⟩, hS.F ht⟩) hS.2.2 dX8_init_55 (hlocks := hlocks)
