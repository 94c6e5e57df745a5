/-! ===== the worlds: the gate's cells (class), one family of rows and numbers ===== -/
/-- the gate's state: rows by number, scalars by number -/
abbrev gk_C : Type := (Nat → Nat → Int32) × (Nat → Int32)
def gk_rls : List Nat := [12, 12, 12, 288, 12, 12, 24, 24, 24, 24, 24, 30, 30, 30, 30, 30, 30, 30, 30, 30, 30, 30, 30, 30, 30, 30, 5, 24, 12, 360, 48, 30, 5, 24, 12, 360, 48, 30, 6]
def gk_rl (r : Nat) : Nat := gk_rls.getD r 0
def gk_o (ad : Nat → Nat) (S : Nat → Int32) (k : Nat) : va_E := match k with
  | 0 => .inr (8, [.ref (ad 1), .ref (ad (7 + 0)), .ref (ad (7 + 1)), .ref (ad (9 + 38))])
  | 1 => .inr (4, [.ref (ad 2), .ref (ad 3), .ref (ad 4), .ref (ad 5), .ref (ad 6), .int (S 6), .int (S 7)])
  | 2 => .inr (6, [.int (S 0), .ref (ad (9 + 0)), .ref (ad (9 + 1)), .ref (ad (9 + 2)), .ref (ad (9 + 3))])
  | 3 => .inr (1, [.int (S 1), .int (S 2), .ref (ad (9 + 4)), .ref (ad (9 + 5))])
  | 4 => .inr (5, [.int (S 3), .ref (ad (9 + 6)), .ref (ad (9 + 7)), .ref (ad (9 + 8)), .ref (ad (9 + 9)), .ref (ad (9 + 10))])
  | 5 => .inr (3, [.int (S 4), .ref (ad (9 + 11)), .ref (ad (9 + 12)), .ref (ad (9 + 13)), .ref (ad (9 + 14)), .ref (ad (9 + 15)), .ref (ad (9 + 16)), .ref (ad (9 + 17)), .ref (ad (9 + 18)), .ref (ad (9 + 19))])
  | _ => .inr (0, [.int (S 5), .ref (ad (9 + 20)), .ref (ad (9 + 21)), .ref (ad (9 + 22)), .ref (ad (9 + 23)), .ref (ad (9 + 24)), .ref (ad (9 + 25))])
def gk_v (ad : Nat → Nat) (S : Nat → Int32) (v : Nat) : va_E := .inr (7, [.ref (ad 1), .ref (ad (9 + (26 + 6 * v))), .ref (ad (9 + (27 + 6 * v))), .ref (ad (9 + (28 + 6 * v))), .ref (ad (9 + (29 + 6 * v))), .ref (ad (9 + (30 + 6 * v))), .ref (ad (9 + (31 + 6 * v))), .int (S (8 + 4 * v)), .int (S (9 + 4 * v)), .int (S (10 + 4 * v)), .int (S (11 + 4 * v))])
def gk_I (ad : Nat → Nat) : Prop := ∀ i j, i < 87 → j < 87 → ad i = ad j → i = j
/-- the heap holds the gate in the state σ, its cells at ad 0 .. ad 86 -/
def gk_W (D : va_G) (cI : ClassId) (ad : Nat → Nat) (σ : gk_C) (H : Heap) : Prop :=
  gk_I ad ∧ (∀ k, k < 7 → va_at D vwCl (ad k, gk_o ad σ.2 k) H) ∧ (∀ v, v < 2 → va_at D vwCl (ad (7 + v), gk_v ad σ.2 v) H) ∧
  (∀ r, r < 39 → va_at D vwCl (ad (9 + r), .inr (2, [.ref (ad (48 + r))])) H) ∧ (∀ r, r < 39 → va_at D vwCl (ad (48 + r), .inl (cI, (gk_rl r, .inl (σ.1 r)))) H)
/-- what the tables say: classes, kinds of arrays, nest mates -/
def gk_AX (ty : FieldType) (U : State) : Prop := (Cond.arrayOver (.array ty)).before #[] U = true
def gk_AO (U : State) : Prop := gk_AX .int U ∧ gk_AX .boolean U
theorem gk_idx_bare (vm : Vm) (comp : ClassId) : (vm.bare.classes.findIdx? fun (x : Class) => match x.kind with | .array component _ => component == comp | _ => false) = (vm.classes.findIdx? fun (x : Class) => match x.kind with | .array component _ => component == comp | _ => false) := by
  simp only [Vm.bare, Array.findIdx?_map]
  rfl
theorem gk_AX.moved {ty : FieldType} {u U : State} (hvm : u.vm.Alike U.vm) (h : gk_AX ty u) : gk_AX ty U := by
  obtain ⟨comp, c, k, h1, h2, h3, h4, h5⟩ := arrayOverA_spec h
  obtain ⟨k', hk', he⟩ := hvm.2.2 _ _ h3
  have hi : (U.vm.classes.findIdx? fun (x : Class) => match x.kind with | .array component _ => component == comp | _ => false) = some c := by
    rw [← gk_idx_bare]
    first | rw [hvm.bare_eq] | rw [← hvm.bare_eq]
    rw [gk_idx_bare]
    exact h2
  have hkind : k'.kind = .array comp (.array ty) := by rw [he]; exact h4
  have f1 : U.vm.findClass (FieldType.array ty).toString = some comp := by rw [hvm.findClass]; exact h1
  have f2 : U.vm.findClass ("[" ++ (FieldType.array ty).toString) = some c := by rw [hvm.findClass]; exact h5
  unfold gk_AX Cond.before Cond.holds
  simp only [Cond.value]
  rw [f1, Option.bind_some]
  refine (congrArg (fun o : Option Nat => (o.bind (fun c => (U.vm.classes[c]?).map fun (k : Class) => match k.kind with | .array _ t9 => decide (t9 = FieldType.array ty) && decide (U.vm.findClass ("[" ++ (FieldType.array ty).toString) = some c) | _ => false) == some true)) hi).trans ?_
  simp [hk', hkind, f2]
theorem gk_AO.moved {u U : State} (hvm : u.vm.Alike U.vm) (h : gk_AO u) : gk_AO U := ⟨gk_AX.moved hvm h.1, gk_AX.moved hvm h.2⟩
def gk_K (D : va_G) (cI cZ cG cL : ClassId) (U : State) : Prop := va_K D vwCl [(cI, .int), (cZ, .boolean), (cG, .array .int), (cL, .array .boolean)] U ∧ (∀ w ∈ gk_NG, va_Nw w U) ∧ gk_AO U
theorem gk_nw {D : va_G} {cI cZ cG cL : ClassId} {U : State} {w : Cond} (h : gk_K D cI cZ cG cL U) (hw : w ∈ gk_NG) : va_Nw w U := h.2.1 w hw
theorem gk_isN_of {w : Cond} (h : w ∈ gk_NG) : (∃ a i b n d z, w = .fieldLinkNest a i b n d z) ∨ ∃ a i y z, w = .methodLinkNest a i y z := by
  have h1 := (List.mem_filter.mp h).2
  cases w <;> first | exact Or.inl ⟨_, _, _, _, _, _, rfl⟩ | exact Or.inr ⟨_, _, _, _, rfl⟩ | (simp [gk_isN] at h1; done)
theorem gk_K.warm {D : va_G} {cI cZ cG cL : ClassId} {s U : State} (hW : s.WarmedH U.vm) (h : gk_K D cI cZ cG cL s) : gk_K D cI cZ cG cL U := by
  refine ⟨va_K.moved hW.alike h.1, fun w hw => ?_, gk_AO.moved hW.alike h.2.2⟩
  have h1 := h.2.1 w hw
  rcases gk_isN_of hw with ⟨a, i, b, n, d, z, rfl⟩ | ⟨a, i, y, z, rfl⟩
  · exact va_Nw.warmF hW h1
  · exact va_Nw.warmM hW h1
theorem gk_K.blind {D : va_G} {cI cZ cG cL : ClassId} {U : State} {g : JFrame} {mk : MethodId} {a : Array Value} (h : gk_K D cI cZ cG cL U) : gk_K D cI cZ cG cL (U.calling g mk a) := by
  refine ⟨va_K.moved (u := U) (U := U.calling g mk a) (Vm.Alike.refl U.vm) h.1, fun w hw => ?_, gk_AO.moved (u := U) (U := U.calling g mk a) (Vm.Alike.refl U.vm) h.2.2⟩
  have h1 := h.2.1 w hw
  rcases gk_isN_of hw with ⟨a, i, b, n, d, z, rfl⟩ | ⟨a, i, y, z, rfl⟩
  · exact va_Nw.same (U := U.calling g mk _) rfl rfl h1
  · exact va_Nw.same (U := U.calling g mk _) rfl rfl h1
/-- which cells the gate's methods may change -/
def gk_A (ad : Nat → Nat) (sz : Nat) : Nat → Prop := fun q => (∃ k, k < 87 ∧ q = ad k) ∨ sz ≤ q
theorem gk_A.up {ad : Nat → Nat} {sz sz' : Nat} (h : sz ≤ sz') : ∀ q, gk_A ad sz' q → gk_A ad sz q := fun _ h1 => h1.elim Or.inl (fun h2 => Or.inr (Nat.le_trans h h2))
theorem gk_A.in {ad : Nat → Nat} {sz k : Nat} (h : k < 87) : gk_A ad sz (ad k) := Or.inl ⟨k, h, rfl⟩
section GKW
variable {D : va_G} {cI : ClassId} {ad : Nat → Nat} {σ : gk_C} {H H1 : Heap}
theorem gk_W.kept (h : gk_W D cI ad σ H) (hq : ∀ k, k < 87 → H1[ad k]? = H[ad k]?) : gk_W D cI ad σ H1 :=
  ⟨h.1, fun k hk => (h.2.1 k hk).kept (hq k (by omega)), fun v hv => (h.2.2.1 v hv).kept (hq (7 + v) (by omega)), fun r hr => (h.2.2.2.1 r hr).kept (hq (9 + r) (by omega)), fun r hr => (h.2.2.2.2 r hr).kept (hq (48 + r) (by omega))⟩
theorem gk_W.lt (h : gk_W D cI ad σ H) {k : Nat} (hk : k < 87) : ad k < H.size := by
  rcases Nat.lt_or_ge k 7 with q | q
  · exact (h.2.1 k q).lt
  · rcases Nat.lt_or_ge k 9 with q2 | q2
    · have h1 := (h.2.2.1 (k - 7) (by omega)).lt
      rwa [show 7 + (k - 7) = k by omega] at h1
    · rcases Nat.lt_or_ge k 48 with q3 | q3
      · have h1 := (h.2.2.2.1 (k - 9) (by omega)).lt
        rwa [show 9 + (k - 9) = k by omega] at h1
      · have h1 := (h.2.2.2.2 (k - 48) (by omega)).lt
        rwa [show 48 + (k - 48) = k by omega] at h1
theorem gk_o0 (h : gk_W D cI ad σ H) : va_at D vwCl (ad 0, .inr (8, [.ref (ad 1), .ref (ad (7 + 0)), .ref (ad (7 + 1)), .ref (ad (9 + 38))])) H := h.2.1 0 (by decide)
theorem gk_o1 (h : gk_W D cI ad σ H) : va_at D vwCl (ad 1, .inr (4, [.ref (ad 2), .ref (ad 3), .ref (ad 4), .ref (ad 5), .ref (ad 6), .int (σ.2 6), .int (σ.2 7)])) H := h.2.1 1 (by decide)
theorem gk_o2 (h : gk_W D cI ad σ H) : va_at D vwCl (ad 2, .inr (6, [.int (σ.2 0), .ref (ad (9 + 0)), .ref (ad (9 + 1)), .ref (ad (9 + 2)), .ref (ad (9 + 3))])) H := h.2.1 2 (by decide)
theorem gk_o3 (h : gk_W D cI ad σ H) : va_at D vwCl (ad 3, .inr (1, [.int (σ.2 1), .int (σ.2 2), .ref (ad (9 + 4)), .ref (ad (9 + 5))])) H := h.2.1 3 (by decide)
theorem gk_o4 (h : gk_W D cI ad σ H) : va_at D vwCl (ad 4, .inr (5, [.int (σ.2 3), .ref (ad (9 + 6)), .ref (ad (9 + 7)), .ref (ad (9 + 8)), .ref (ad (9 + 9)), .ref (ad (9 + 10))])) H := h.2.1 4 (by decide)
theorem gk_o5 (h : gk_W D cI ad σ H) : va_at D vwCl (ad 5, .inr (3, [.int (σ.2 4), .ref (ad (9 + 11)), .ref (ad (9 + 12)), .ref (ad (9 + 13)), .ref (ad (9 + 14)), .ref (ad (9 + 15)), .ref (ad (9 + 16)), .ref (ad (9 + 17)), .ref (ad (9 + 18)), .ref (ad (9 + 19))])) H := h.2.1 5 (by decide)
theorem gk_o6 (h : gk_W D cI ad σ H) : va_at D vwCl (ad 6, .inr (0, [.int (σ.2 5), .ref (ad (9 + 20)), .ref (ad (9 + 21)), .ref (ad (9 + 22)), .ref (ad (9 + 23)), .ref (ad (9 + 24)), .ref (ad (9 + 25))])) H := h.2.1 6 (by decide)
theorem gk_ov (h : gk_W D cI ad σ H) {v : Nat} (hv : v < 2) : va_at D vwCl (ad (7 + v), .inr (7, [.ref (ad 1), .ref (ad (9 + (26 + 6 * v))), .ref (ad (9 + (27 + 6 * v))), .ref (ad (9 + (28 + 6 * v))), .ref (ad (9 + (29 + 6 * v))), .ref (ad (9 + (30 + 6 * v))), .ref (ad (9 + (31 + 6 * v))), .int (σ.2 (8 + 4 * v)), .int (σ.2 (9 + 4 * v)), .int (σ.2 (10 + 4 * v)), .int (σ.2 (11 + 4 * v))])) H := h.2.2.1 v hv
theorem gk_or (h : gk_W D cI ad σ H) {r : Nat} (hr : r < 39) : va_at D vwCl (ad (9 + r), .inr (2, [.ref (ad (48 + r))])) H := h.2.2.2.1 r hr
theorem gk_oa (h : gk_W D cI ad σ H) {r : Nat} (hr : r < 39) : va_at D vwCl (ad (48 + r), .inl (cI, (gk_rl r, .inl (σ.1 r)))) H := h.2.2.2.2 r hr
end GKW
/-- new states -/
def gk_s (σ : gk_C) (i : Nat) (v : Int32) : gk_C := (σ.1, va_up σ.2 i v)
def gk_r (σ : gk_C) (r : Nat) (f : Nat → Int32) : gk_C := (va_up σ.1 r f, σ.2)
/-- Row.at, put, takeOut, clear -/
def gk_at (σ : gk_C) (r : Nat) (i : Int32) : Int32 := if i < 0 ∨ gk_rl r ≤ i.toNatClampNeg then 0 else σ.1 r i.toNatClampNeg
def gk_put (σ : gk_C) (r : Nat) (i v : Int32) : gk_C := if i < 0 ∨ gk_rl r ≤ i.toNatClampNeg then σ else gk_r σ r (upd (σ.1 r) i.toNatClampNeg v)
def gk_out (σ : gk_C) (r : Nat) (i : Int32) : gk_C := gk_r σ r (fun k => if i.toNatClampNeg ≤ k ∧ k + 1 < gk_rl r then σ.1 r (k + 1) else σ.1 r k)
def gk_clr (σ : gk_C) (r : Nat) : gk_C := gk_r σ r (fun k => if k < gk_rl r then 0 else σ.1 r k)
theorem gk_sing {D : va_G} {cl : List vw_C} {q : Nat × va_E} {H : Heap} (h : va_at D cl q H) : va_P D cl [q] H := by
  intro k r hk
  cases k with
  | zero => cases hk; exact h
  | succ k => cases hk
theorem gk_recv {s : State} {H : Heap} {D : va_G} {a ci : Nat} {q : vw_C} {fs : List Value} {tys : List (ClassId × FieldType)} (hK : va_K D vwCl tys s) (h : va_at D vwCl (a, .inr (ci, fs)) H) (hc : vwCl[ci]? = some q) : ∃ cell : Cell, H[a]? = some cell ∧ cell.vm.isStatics = false ∧ s.vm.findClass q.1 = some cell.cls :=
  va_recv hK (gk_sing h) hc (q0 := 0) rfl
section GKI
variable {p : Program} {l : Launch} {e : Env} {R : Room} {s : State} {m : MethodId} {args : Array Value} {below : List Frame} {meth : Method} {c : Code} {H : Heap} {locs : List Loc} {cells slots : Nat} {Q : State → Prop}
variable {D : va_G} {tys : List (ClassId × FieldType)} {cc : ByteArray} {pc a : Nat} {ls : Array Slot} {rest : List Value} {A : Nat → Prop} {H0 : Heap}
theorem gk_get (hexec : p.tables.exec = Jvm.exec) (hb : c.code = cc) {own ref C : String} {T : u_T} {N ci index : Nat} {Ts : List Cond} (hts : ∀ w ∈ Ts, w.before args s = true) (hin : ∀ w ∈ u_ws C T N, w ∈ Ts) (hown : s.vm.findClass own = some m.cls) (hK : va_K D vwCl tys s) {fs : List Value} (h : va_at D vwCl (a, .inr (ci, fs)) H) (hc : vwCl[ci]? = some (C, T, N)) (k : Nat) (hk : k < N) (hlink : (Cond.fieldLink own index ref (T k).2.1 (T k).2.2.1).before args s = true) (hsame : ∀ x, s.fieldFound? (T k).1 (T k).2.1 (T k).2.2.1 = some x → s.fieldFound? ref (T k).2.1 (T k).2.2.1 = some x) {v : Value} (hv : fs[k]? = some v) (hdg : decode cc pc = .ok (.getfield index, 3))
    (kk : W p l e R s m args below meth c H locs cells slots Q (F0 m (pc + 3) ls (v :: rest))) : W p l e R s m args below meth c H locs cells slots Q (F0 m pc ls (.ref a :: rest)) :=
  va_get hexec hb hts hin hown hK (gk_sing h) 0 rfl hc k hk hlink hsame hv hdg kk
/-- putfield of an int, no other cell changes -/
theorem gk_putf (hexec : p.tables.exec = Jvm.exec) (hb : c.code = cc) {own ref C : String} {T : u_T} {N ci index : Nat} {Ts : List Cond} (hts : ∀ w ∈ Ts, w.before args s = true) (hin : ∀ w ∈ u_ws C T N, w ∈ Ts) (ty0 : Nat → FieldType) (hty : ∀ k, k < N → parseFieldDescriptor (T k).2.2.1 = some (ty0 k)) (hnm : ∀ a, a < N → ∀ b, b < N → a ≠ b → (T a).2.1 ≠ (T b).2.1) (hown : s.vm.findClass own = some m.cls) (hK : va_K D vwCl tys s) (hS0 : va_S A H0 H locs) (hAa : A a) {fs : List Value} (h : va_at D vwCl (a, .inr (ci, fs)) H) (hc : vwCl[ci]? = some (C, T, N)) (k : Nat) (hk : k < N) (hlink : (Cond.fieldLink own index ref (T k).2.1 (T k).2.2.1).before args s = true) (hsame : ∀ x, s.fieldFound? (T k).1 (T k).2.1 (T k).2.2.1 = some x → s.fieldFound? ref (T k).2.1 (T k).2.2.1 = some x) (hfin : (T k).2.2.2 = false) {ty : FieldType} {v : Value} (hd : parseFieldDescriptor (T k).2.2.1 = some ty) (hn : narrow ty v = v) (hfit : fits ty v = true) (hl : k < fs.length)
    (hdg : decode cc pc = .ok (.putfield index, 3)) (kk : ∀ (H1 : Heap) (locs1 : List Loc), va_at D vwCl (a, .inr (ci, fs.set k v)) H1 → H1.size = H.size → (∀ q, q ≠ a → H1[q]? = H[q]?) → va_S A H0 H1 locs1 → W p l e R s m args below meth c H1 locs1 cells slots Q (F0 m (pc + 3) ls rest)) : W p l e R s m args below meth c H locs cells slots Q (F0 m pc ls (v :: .ref a :: rest)) := by
  have hap := va_apart (own := own) hts hin ty0 hty hnm hK hc
  obtain ⟨r, h1, cell, q1, q2, q3, q4⟩ := h
  have hr : r = (C, T, N) := Option.some.inj (h1.symm.trans hc)
  subst hr
  obtain ⟨hS, hfc, kC, hkC, hkind⟩ := hK.1 ci _ hc
  obtain ⟨cf, kf, fi, f, hi, hsl⟩ := hS k hk
  have hlay := hts _ (hin _ (u_in_lay hk))
  unfold u_lay at hlay
  rw [if_neg (by rw [hfin]; decide)] at hlay
  have hst := (u_facts hfc hkC (u_lays hts hin hk) hi).1
  have h6 := u_store hfc hkC hkind hlay hi hd hn hfit
  refine W.putK hexec hb (f := f) ⟨hown, hlink, ⟨_, _, _, hsame _ hi⟩, hst⟩ (by rw [q2]; exact h6) q1 q3 (by rw [hsl]; exact k2_hasslot (q4 k hk)) rfl rfl hdg fun H' e1 e2 e3 => ?_
  rw [hsl] at e1 ⊢
  exact kk H' _ ⟨_, hc, t_OB.to (V := updV (vp_V fs) k v) ⟨_, e1, q2, q3, t_set q4 hap hk v⟩ (fun j _ => vp_updV_set hl v j)⟩ e2 e3 (hS0.put e2 e3 hAa)
theorem gk_iald (hexec : p.tables.exec = Jvm.exec) (hb : c.code = cc) (hK : va_K D vwCl tys s) (t0 : Nat) {cA : ClassId} {n : Nat} {f : Nat → Int32} (h : va_at D vwCl (a, .inl (cA, (n, .inl f))) H) (ht : tys[t0]? = some (cA, .int)) {i : Int32} (hin : vp_in i n) (hdg : decode cc pc = .ok (.iaload, 1))
    (kk : W p l e R s m args below meth c H locs cells slots Q (F0 m (pc + 1) ls (.int (f i.toNatClampNeg) :: rest))) : W p l e R s m args below meth c H locs cells slots Q (F0 m pc ls (.int i :: .ref a :: rest)) :=
  va_iald hexec hb hK (gk_sing h) 0 t0 rfl ht hin hdg kk
theorem gk_zald (hexec : p.tables.exec = Jvm.exec) (hb : c.code = cc) (hK : va_K D vwCl tys s) (t0 : Nat) {cA : ClassId} {n : Nat} {f : Nat → Int32} (h : va_at D vwCl (a, .inl (cA, (n, .inl f))) H) (ht : tys[t0]? = some (cA, .boolean)) {i : Int32} (hin : vp_in i n) (hdg : decode cc pc = .ok (.baload, 1))
    (kk : W p l e R s m args below meth c H locs cells slots Q (F0 m (pc + 1) ls (.int (f i.toNatClampNeg) :: rest))) : W p l e R s m args below meth c H locs cells slots Q (F0 m pc ls (.int i :: .ref a :: rest)) :=
  va_zald hexec hb hK (gk_sing h) 0 t0 rfl ht hin hdg kk
theorem gk_alen (hexec : p.tables.exec = Jvm.exec) (hb : c.code = cc) (hK : va_K D vwCl tys s) (t0 : Nat) {cA : ClassId} {x : vp_A} (h : va_at D vwCl (a, .inl (cA, x)) H) {ty : FieldType} (ht : tys[t0]? = some (cA, ty)) {v : Int32} (hv : Int32.ofNat x.1 = v) (hdg : decode cc pc = .ok (.arraylength, 1))
    (kk : W p l e R s m args below meth c H locs cells slots Q (F0 m (pc + 1) ls (.int v :: rest))) : W p l e R s m args below meth c H locs cells slots Q (F0 m pc ls (.ref a :: rest)) :=
  va_alen hexec hb hK (gk_sing h) 0 t0 rfl ht hv hdg kk
theorem gk_iast (hexec : p.tables.exec = Jvm.exec) (hb : c.code = cc) (hK : va_K D vwCl tys s) (hS : va_S A H0 H locs) (hAa : A a) (t0 : Nat) {cA : ClassId} {n : Nat} {f : Nat → Int32} (h : va_at D vwCl (a, .inl (cA, (n, .inl f))) H) (ht : tys[t0]? = some (cA, .int)) {i x : Int32} (hin : vp_in i n) (hdg : decode cc pc = .ok (.iastore, 1))
    (kk : ∀ (H1 : Heap) (locs1 : List Loc), va_at D vwCl (a, .inl (cA, (n, .inl (upd f i.toNatClampNeg x)))) H1 → H1.size = H.size → (∀ q, q ≠ a → H1[q]? = H[q]?) → va_S A H0 H1 locs1 → W p l e R s m args below meth c H1 locs1 cells slots Q (F0 m (pc + 1) ls rest)) : W p l e R s m args below meth c H locs cells slots Q (F0 m pc ls (.int x :: .int i :: .ref a :: rest)) := by
  refine W.iast hexec hb h ((hK.2 t0 _ ht).1 n (fun j => .int (f j))) (fun q => by cases q) (by show ¬ (i < 0 ∨ (arrV _ _ _).slots.size ≤ _); rw [arrV_size]; exact hin) rfl rfl hdg fun H1 e z oq => ?_
  refine kk H1 _ ?_ z oq (hS.put z oq hAa)
  show H1[a]? = some (vp_cell _ _)
  rw [e]
  rw [vp_cell_i, vp_cell_i, arrV_store]
  congr 2
  funext q
  by_cases hq : q = i.toNatClampNeg
  · subst hq
    simp [updV, upd]
  · simp [updV, upd, hq]
theorem gk_getN (hexec : p.tables.exec = Jvm.exec) (hb : c.code = cc) {own ref C host : String} {T : u_T} {N ci index : Nat} {Ts : List Cond} (hts : ∀ w ∈ Ts, w.before args s = true) (hin : ∀ w ∈ u_ws C T N, w ∈ Ts) (hown : s.vm.findClass own = some m.cls) (hK : va_K D vwCl tys s) {fs : List Value} (h : va_at D vwCl (a, .inr (ci, fs)) H) (hc : vwCl[ci]? = some (C, T, N)) (k : Nat) (hk : k < N) (hlink : va_Nw (.fieldLinkNest own index ref (T k).2.1 (T k).2.2.1 host) s) (hsame : ∀ x, s.fieldFound? (T k).1 (T k).2.1 (T k).2.2.1 = some x → s.fieldFound? ref (T k).2.1 (T k).2.2.1 = some x) {v : Value} (hv : fs[k]? = some v) (hdg : decode cc pc = .ok (.getfield index, 3))
    (kk : W p l e R s m args below meth c H locs cells slots Q (F0 m (pc + 3) ls (v :: rest))) : W p l e R s m args below meth c H locs cells slots Q (F0 m pc ls (.ref a :: rest)) :=
  va_getN hexec hb hts hin hown hK (gk_sing h) 0 rfl hc k hk (va_Nw.use rfl hlink) hsame hv hdg kk
theorem gk_putN (hexec : p.tables.exec = Jvm.exec) (hb : c.code = cc) {own ref C host : String} {T : u_T} {N ci index : Nat} {Ts : List Cond} (hts : ∀ w ∈ Ts, w.before args s = true) (hin : ∀ w ∈ u_ws C T N, w ∈ Ts) (ty0 : Nat → FieldType) (hty : ∀ k, k < N → parseFieldDescriptor (T k).2.2.1 = some (ty0 k)) (hnm : ∀ a, a < N → ∀ b, b < N → a ≠ b → (T a).2.1 ≠ (T b).2.1) (hown : s.vm.findClass own = some m.cls) (hK : va_K D vwCl tys s) (hS0 : va_S A H0 H locs) (hAa : A a) {fs : List Value} (h : va_at D vwCl (a, .inr (ci, fs)) H) (hc : vwCl[ci]? = some (C, T, N)) (k : Nat) (hk : k < N) (hlink : va_Nw (.fieldLinkNest own index ref (T k).2.1 (T k).2.2.1 host) s) (hsame : ∀ x, s.fieldFound? (T k).1 (T k).2.1 (T k).2.2.1 = some x → s.fieldFound? ref (T k).2.1 (T k).2.2.1 = some x) (hfin : (T k).2.2.2 = false) {ty : FieldType} {v : Value} (hd : parseFieldDescriptor (T k).2.2.1 = some ty) (hn : narrow ty v = v) (hfit : fits ty v = true) (hl : k < fs.length)
    (hdg : decode cc pc = .ok (.putfield index, 3)) (kk : ∀ (H1 : Heap) (locs1 : List Loc), va_at D vwCl (a, .inr (ci, fs.set k v)) H1 → H1.size = H.size → (∀ q, q ≠ a → H1[q]? = H[q]?) → va_S A H0 H1 locs1 → W p l e R s m args below meth c H1 locs1 cells slots Q (F0 m (pc + 3) ls rest)) : W p l e R s m args below meth c H locs cells slots Q (F0 m pc ls (v :: .ref a :: rest)) := by
  have hap := va_apart (own := own) hts hin ty0 hty hnm hK hc
  obtain ⟨r, h1, cell, q1, q2, q3, q4⟩ := h
  have hr : r = (C, T, N) := Option.some.inj (h1.symm.trans hc)
  subst hr
  obtain ⟨hS, hfc, kC, hkC, hkind⟩ := hK.1 ci _ hc
  obtain ⟨cf, kf, fi, f, hi, hsl⟩ := hS k hk
  have hlay := hts _ (hin _ (u_in_lay hk))
  unfold u_lay at hlay
  rw [if_neg (by rw [hfin]; decide)] at hlay
  have hst := (u_facts hfc hkC (u_lays hts hin hk) hi).1
  have h6 := u_store hfc hkC hkind hlay hi hd hn hfit
  refine va_WputK hexec hb (f := f) hown (va_Nw.use rfl hlink) (hsame _ hi) hst (by rw [q2]; exact h6) q1 q3 (by rw [hsl]; exact k2_hasslot (q4 k hk)) rfl rfl hdg fun H' e1 e2 e3 => ?_
  rw [hsl] at e1 ⊢
  exact kk H' _ ⟨_, hc, t_OB.to (V := updV (vp_V fs) k v) ⟨_, e1, q2, q3, t_set q4 hap hk v⟩ (fun j _ => vp_updV_set hl v j)⟩ e2 e3 (hS0.put e2 e3 hAa)
end GKI
