/-! ===== the law's Gate: rows of rows, new rows ===== -/
section NKOO
variable {D : va_G} {ad am : Nat → Nat} {H H1 : Heap}
/-- a row of rows that is none of these -/
def nk_O (D : va_G) (cG : ClassId) (ad am : Nat → Nat) (q : Nat) (g : Nat → Option Nat) (H : Heap) : Prop := va_at D vwCl (q, tk_g cG 20 g) H ∧ (∀ k, k < 87 → q ≠ ad k) ∧ ∀ k, k ∈ tk_ix → q ≠ am k
section NKO
variable {q : Nat} {g : Nat → Option Nat} {cG : ClassId}
theorem nk_O.nA (h : nk_O D cG ad am q g H) : ¬ nk_A ad am H.size q := by
  rintro (⟨k, hk, e⟩ | ⟨k, hk, e⟩ | h1)
  · exact h.2.1 k hk e
  · exact h.2.2 k hk e
  · exact absurd h.1.lt (Nat.not_lt.mpr h1)
theorem nk_O.kept (h : nk_O D cG ad am q g H) (hk : ∀ z : Nat, z < H.size → ¬ nk_A ad am H.size z → H1[z]? = H[z]?) : nk_O D cG ad am q g H1 := ⟨h.1.kept (hk q h.1.lt h.nA), h.2⟩
theorem nk_O.gate (h : nk_O D cG ad am q g H) (hk : ∀ z : Nat, z < H.size → ¬ gk_A ad H.size z → H1[z]? = H[z]?) : nk_O D cG ad am q g H1 := ⟨h.1.kept (hk q h.1.lt (fun z => h.nA (nk_A.of _ z))), h.2⟩
theorem nk_O.keptAll (h : nk_O D cG ad am q g H) (hk : ∀ z : Nat, z < H.size → H1[z]? = H[z]?) : nk_O D cG ad am q g H1 := ⟨h.1.kept (hk q h.1.lt), h.2⟩
theorem nk_O.oq (h : nk_O D cG ad am q g H) {a : Nat} (oq : ∀ z, z ≠ a → H1[z]? = H[z]?) (hne : q ≠ a) : nk_O D cG ad am q g H1 := ⟨h.1.kept (oq q hne), h.2⟩
theorem nk_O.oqS (h : nk_O D cG ad am q g H) {k : Nat} (hk : k ∈ tk_ix) (oq : ∀ z, z ≠ am k → H1[z]? = H[z]?) : nk_O D cG ad am q g H1 := ⟨h.1.kept (oq q (h.2.2 k hk)), h.2⟩
end NKO
end NKOO
def nk_A1 (ad am : Nat → Nat) (k sz : Nat) : Nat → Prop := fun q => q = am k ∨ nk_A ad am sz q
theorem nk_A1.up {ad am : Nat → Nat} {k sz sz' : Nat} (h : sz ≤ sz') : ∀ q, nk_A1 ad am k sz' q → nk_A1 ad am k sz q := fun q h1 => h1.elim Or.inl (fun h2 => Or.inr (nk_A.up h q h2))
def nk_PcO (k : Nat) (D : va_G) (cI cZ cG cL : ClassId) (ad am : Nat → Nat) (q1 q2 q3 b L : Nat) (xs : Nat → Int32) (av : List Value) (sz : Nat) (σ : nk_C) (fR : Nat → Option Nat) : Array Value → State → Prop := va_Pc av (fun U => U.heap.size = sz ∧ nk_W D cI cZ cL ad am b σ U.heap ∧ gk_K D cI cZ cG cL U ∧ nk_Z q1 q2 q3 b L xs (nk_A1 ad am k sz) U U.heap ∧ nk_O D cG ad am (am k) fR U.heap)
theorem nk_blindO {k : Nat} {D : va_G} {cI cZ cG cL : ClassId} {ad am : Nat → Nat} {q1 q2 q3 b L : Nat} {xs : Nat → Int32} {av : List Value} {sz : Nat} {σ : nk_C} {fR : Nat → Option Nat} : FrameBlind (nk_PcO k D cI cZ cG cL ad am q1 q2 q3 b L xs av sz σ fR) := fun _ _ _ _ q => ⟨q.1, q.2.1, q.2.2.1, gk_K.blind q.2.2.2.1, q.2.2.2.2.1.blind, q.2.2.2.2.2⟩
theorem gk_asg (vm : Vm) (c : ClassId) : vm.assignable c c = true := by
  show vm.assignableAux (255 + 1) c c = true
  rw [Vm.assignableAux, Bool.or_eq_true]
  exact Or.inl (beq_self_eq_true c)
section NKR
variable {p : Program} {l : Launch} {e : Env} {R : Room} {s : State} {m : MethodId} {args : Array Value} {below : List Frame} {meth : Method} {c : Code} {H : Heap} {locs : List Loc} {cells slots : Nat} {Q : State → Prop}
variable {D : va_G} {cI cZ cG cL : ClassId} {ad am : Nat → Nat} {σ : nk_C} {cc : ByteArray} {pc nL mc ms : Nat} {ls : Array Slot} {rest st0 : List Value} {q1 q2 q3 b0 L : Nat} {xs : Nat → Int32}
variable {own : String}
theorem nk_astg {A : Nat → Prop} {H0 : Heap} (hexec : p.tables.exec = Jvm.exec) (hb : c.code = cc) (hK : gk_K D cI cZ cG cL s) (hS : va_S A H0 H locs) {a v : Nat} (hAa : A a) {g : Nat → Option Nat} {f : Nat → Int32} {n N9 : Nat} (h : va_at D vwCl (a, .inl (cG, (N9, .inr (.inr (.inr (.inr g)))))) H) (hv : va_at D vwCl (v, .inl (cI, (n, .inl f))) H) {i : Int32} (hin : vp_in i N9) (hdg : decode cc pc = .ok (.aastore, 1))
    (kk : ∀ (H1 : Heap) (locs1 : List Loc), va_at D vwCl (a, .inl (cG, (N9, .inr (.inr (.inr (.inr (va_up g i.toNatClampNeg (some v)))))))) H1 → (∀ q, q ≠ a → H1[q]? = H[q]?) → H1.size = H.size → va_S A H0 H1 locs1 → W p l e R s m args below meth c H1 locs1 cells slots Q (F0 m (pc + 1) ls rest)) : W p l e R s m args below meth c H locs cells slots Q (F0 m pc ls (.ref v :: .int i :: .ref a :: rest)) := by
  have hlt : i.toNatClampNeg < N9 := Nat.not_le.mp fun q => hin (Or.inr q)
  have h0 : ¬ i < 0 := fun q => hin (Or.inl q)
  obtain ⟨comp, cG', kG, h1, h2, h3, h4, h5⟩ := arrayOverA_spec hK.2.2.1
  have e5 : s.vm.findClass ("[" ++ (FieldType.array .int).toString) = some cG := (hK.1.2 2 (cG, .array .int) rfl).2
  cases Option.some.inj (h5.symm.trans e5)
  have e6 : s.vm.findClass ("[" ++ FieldType.int.toString) = some cI := (hK.1.2 0 (cI, .int) rfl).2
  have e7 : comp = cI := Option.some.inj (h1.symm.trans e6)
  subst e7
  obtain ⟨kI, hkI, -⟩ := Vm.findClass_spec e6
  refine W.aast hexec hb h (fun q h => by cases h) (fun h => by cases h) h3 h4 rfl hkI ⟨h0, by show _ < (arrV _ _ _).slots.size; rw [arrV_size]; exact hlt⟩ hv (fun q h => by cases h) hkI (gk_asg _ _) rfl rfl hdg fun H1 e z oq => ?_
  refine kk H1 _ ?_ oq z (hS.put z oq hAa)
  show H1[a]? = some (vp_cell _ _)
  rw [e]
  rw [vp_cell_q, vp_cell_q, arrV_store]
  congr 2
  funext q
  by_cases hq : q = i.toNatClampNeg
  · subst hq
    simp [updV, va_up, va_rf]
  · simp [updV, va_up, hq]
/-- a new int array, all 0 -/
theorem nk_newi {A : Nat → Prop} {H0 : Heap} (hexec : p.tables.exec = Jvm.exec) (hb : c.code = cc) (harr : (Cond.arrayClass .int).before args s = true) (hK : gk_K D cI cZ cG cL s) (hW : nk_W D cI cZ cL ad am b0 σ H) (hS : va_S A H0 H locs) {n : Int32} {N' : Nat} (hn : ¬ n < 0) (hN : n.toNatClampNeg = N') (hby : N' * 4 ≤ 536870912) (hf : cells + 1 ≤ R.cells ∧ slots + N' ≤ R.slots) (hdg : decode cc pc = .ok (.newarray .int, 2))
    (kk : ∀ (q : Nat) (H1 : Heap), nk_D D cI ad am q N' (fun _ => 0) H1 → q = H.size → H0.size ≤ q → (∀ z : Nat, z < H.size → H1[z]? = H[z]?) → va_S A H0 H1 locs → W p l e R s m args below meth c H1 locs (cells + 1) (slots + N') Q (F0 m (pc + 2) ls (.ref q :: rest))) : W p l e R s m args below meth c H locs cells slots Q (F0 m pc ls (.int n :: rest)) := by
  subst hN
  refine W.newa (atype := .int) hexec hb harr rfl hdg rfl hn hby hf.1 hf.2 fun cA kA comp f1 f2 f3 => ?_
  have hcA : cA = cI := by
    have h2 := (hK.1.2 0 (cI, .int) rfl).2
    have h3 : s.vm.findClass ("[" ++ FieldType.int.toString) = some cI := h2
    exact Option.some.inj (f1.symm.trans h3)
  subst hcA
  have e1 : (H.push ({ cls := cA, slots := Array.replicate n.toNatClampNeg (defaultValue (newarray.typeOf .int)), vm := .none } : Cell))[H.size]? = some (vp_cell cA (n.toNatClampNeg, .inl (fun _ => 0))) := by
    rw [Array.getElem?_push_size, vp_cell_i]
    congr 1
    exact arrV_new cA _ _
  have e2 : ∀ z : Nat, z < H.size → (H.push ({ cls := cA, slots := Array.replicate n.toNatClampNeg (defaultValue (newarray.typeOf .int)), vm := .none } : Cell))[z]? = H[z]? := fun z hz => by
    rw [Array.getElem?_push_lt hz, Array.getElem?_eq_getElem hz]
  refine kk H.size _ ⟨e1, fun k hk => Nat.ne_of_gt (hW.ltG hk), fun k hk => Nat.ne_of_gt (hW.lt hk)⟩ rfl hS.1 e2 ⟨Nat.le_trans hS.1 (by rw [Array.size_push]; omega), fun q h1 h2 => (e2 q (Nat.lt_of_lt_of_le h1 hS.1)).trans (hS.2.1 q h1 h2), hS.2.2⟩
theorem nk_reto {k N9 : Nat} {Q9 : Int32 → nk_C → (Nat → Option Nat) → Nat → (Nat → Int32) → Prop} {v : Int32} {u : nk_C × (Nat → Option Nat) × Nat × (Nat → Int32)} (C0 : gk_F p s m args meth c cc nL (some .boolean) own) (hn : narrow .boolean (.int v) = .int v) (hq : Q9 v u.1 u.2.1 u.2.2.1 u.2.2.2) (hW : nk_W D cI cZ cL ad am b0 u.1 H) (hO : nk_O D cG ad am (am k) u.2.1 H) (hd : nk_D D cI ad am u.2.2.1 N9 u.2.2.2 H) (hg : s.heap.size ≤ u.2.2.1) (hS : va_S (nk_A1 ad am k s.heap.size) s.heap H locs) (hdg : decode cc pc = .ok (.ireturn, 1)) :
    W p l e R s m args below meth c H locs cells slots (MQ below (va_Qi (fun r (u : nk_C × (Nat → Option Nat) × Nat × (Nat → Int32)) => Q9 r u.1 u.2.1 u.2.2.1 u.2.2.2) (fun u t => nk_W D cI cZ cL ad am b0 u.1 t.heap ∧ nk_O D cG ad am (am k) u.2.1 t.heap ∧ nk_D D cI ad am u.2.2.1 N9 u.2.2.2 t.heap ∧ s.heap.size ≤ u.2.2.1) (nk_A1 ad am k s.heap.size)) args s cells slots (nk_A1 ad am k s.heap.size)) (F0 m pc ls [.int v]) :=
  W.zret (v := v) C0.1 C0.2.1 C0.2.2.2.2.2.1 hn (fun t ht _ => ⟨⟨v, u, rfl, hq, by subst ht; exact ⟨hW, hO, hd, hg⟩⟩, hS.F ht⟩) hS.2.2 hdg (hlocks := C0.2.2.2.2.2.2)
theorem nk_reta {S : Type} {post : S → Prop} {B : S → Nat → State → Prop} {rt : FieldType} {a : Nat} (u : S) (C0 : gk_F p s m args meth c cc nL (some rt) own) (hrt : (∃ n, rt = .object n) ∨ ∃ t, rt = .array t) (hq : post u) (hB : ∀ t : State, t.heap = H → B u a t) (hS : va_S (nk_A ad am s.heap.size) s.heap H locs) (hdg : decode cc pc = .ok (.areturn, 1)) :
    W p l e R s m args below meth c H locs cells slots (MQ below (va_Qr post B (nk_A ad am s.heap.size)) args s cells slots (nk_A ad am s.heap.size)) (F0 m pc ls [.ref a]) :=
  W.aret (v := .ref a) C0.1 C0.2.1 C0.2.2.2.2.2.1 hrt (Or.inr ⟨a, rfl⟩) (fun t ht _ => ⟨⟨u, a, rfl, hq, hB t ht⟩, hS.F ht⟩) hS.2.2 hdg (hlocks := C0.2.2.2.2.2.2)
end NKR
