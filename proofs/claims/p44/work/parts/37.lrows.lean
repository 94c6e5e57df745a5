/-! ===== the law: its own world (all that is new), rows of rows, calls ===== -/
def lo_A (sz : Nat) : Nat → Prop := fun q => sz ≤ q
theorem lo_A.up {sz sz' : Nat} (h : sz ≤ sz') : ∀ q, lo_A sz' q → lo_A sz q := fun _ h1 => Nat.le_trans h h1
/-- the Gate's cells and the gate's came after sz -/
def lk_D (sz : Nat) (ad am : Nat → Nat) : Prop := (∀ k, k < 87 → sz ≤ ad k) ∧ (∀ k, k ∈ tk_ix → sz ≤ am k) ∧ sz ≤ am 18 ∧ sz ≤ am 20 ∧ am 18 ≠ am 20
theorem lk_D.up {sz : Nat} {ad am : Nat → Nat} (h : lk_D sz ad am) {sz' : Nat} (hs : sz ≤ sz') : ∀ q, nk_A ad am sz' q → lo_A sz q := by
  rintro q (⟨k, hk, e⟩ | ⟨k, hk, e⟩ | h1)
  · show sz ≤ q; rw [e]; exact h.1 k hk
  · show sz ≤ q; rw [e]; exact h.2.1 k hk
  · exact Nat.le_trans hs h1
theorem lk_D.up1 {sz : Nat} {ad am : Nat → Nat} (h : lk_D sz ad am) {k : Nat} (hk : k = 18 ∨ k = 20) {sz' : Nat} (hs : sz ≤ sz') : ∀ q, nk_A1 ad am k sz' q → lo_A sz q := by
  rintro q (e | h1)
  · show sz ≤ q
    rw [e]
    rcases hk with rfl | rfl
    · exact h.2.2.1
    · exact h.2.2.2.1
  · exact h.up hs q h1
/-- rows of rules, rows of grants: those that N tells are there -/
abbrev lk_R : Type := (Nat → Option (Nat → Int32)) × (Nat → Option (Nat → Int32))
def rk_one (D : va_G) (cI cG : ClassId) (ad am : Nat → Nat) (k n : Nat) (N : Nat → Option (Nat → Int32)) (H : Heap) : Prop :=
  ∃ g : Nat → Option Nat, nk_O D cG ad am (am k) g H ∧ ∀ j f, N j = some f → ∃ a, g j = some a ∧ nk_D D cI ad am a n f H ∧ a ≠ am 18 ∧ a ≠ am 20
def rk_W (D : va_G) (cI cG : ClassId) (ad am : Nat → Nat) (ρ : lk_R) (H : Heap) : Prop := rk_one D cI cG ad am 18 9 ρ.1 H ∧ rk_one D cI cG ad am 20 6 ρ.2 H
section RKW
variable {D : va_G} {cI cG : ClassId} {ad am : Nat → Nat} {ρ : lk_R} {H H1 : Heap} {k n : Nat} {N : Nat → Option (Nat → Int32)}
theorem rk_one.by (h : rk_one D cI cG ad am k n N H) (h1 : H1[am k]? = H[am k]?) (h2 : ∀ a f, nk_D D cI ad am a n f H → a ≠ am 18 → a ≠ am 20 → H1[a]? = H[a]?) : rk_one D cI cG ad am k n N H1 := by
  obtain ⟨g, a1, a2⟩ := h
  refine ⟨g, ⟨a1.1.kept h1, a1.2⟩, fun j f hj => ?_⟩
  obtain ⟨a, b1, b2, b3, b4⟩ := a2 j f hj
  exact ⟨a, b1, ⟨b2.1.kept (h2 a f b2 b3 b4), b2.2⟩, b3, b4⟩
theorem rk_one.lt (h : rk_one D cI cG ad am k n N H) : am k < H.size := by
  obtain ⟨g, a1, -⟩ := h
  exact a1.1.lt
theorem rk_one.nA (h : rk_one D cI cG ad am k n N H) : ¬ nk_A ad am H.size (am k) := by
  obtain ⟨g, a1, -⟩ := h
  exact a1.nA
theorem rk_W.kept (h : rk_W D cI cG ad am ρ H) (hk : ∀ z : Nat, z < H.size → ¬ nk_A ad am H.size z → H1[z]? = H[z]?) : rk_W D cI cG ad am ρ H1 :=
  ⟨h.1.by (hk _ h.1.lt h.1.nA) (fun a f ha _ _ => hk a ha.1.lt ha.nA), h.2.by (hk _ h.2.lt h.2.nA) (fun a f ha _ _ => hk a ha.1.lt ha.nA)⟩
theorem rk_W.gate (h : rk_W D cI cG ad am ρ H) (hk : ∀ z : Nat, z < H.size → ¬ gk_A ad H.size z → H1[z]? = H[z]?) : rk_W D cI cG ad am ρ H1 := h.kept (fun z h1 h2 => hk z h1 (fun q => h2 (nk_A.of _ q)))
theorem rk_W.keptAll (h : rk_W D cI cG ad am ρ H) (hk : ∀ z : Nat, z < H.size → H1[z]? = H[z]?) : rk_W D cI cG ad am ρ H1 := h.kept (fun z h1 _ => hk z h1)
theorem rk_W.oqS (h : rk_W D cI cG ad am ρ H) {i : Nat} (hi : i ∈ tk_ix) (oq : ∀ z, z ≠ am i → H1[z]? = H[z]?) : rk_W D cI cG ad am ρ H1 := by
  have e : ∀ k, (¬ nk_A ad am H.size (am k)) → am k ≠ am i := fun k hn q => hn (by rw [q]; exact nk_A.in hi)
  exact ⟨h.1.by (oq _ (e 18 h.1.nA)) (fun a f ha _ _ => oq a (ha.2.2 i hi)), h.2.by (oq _ (e 20 h.2.nA)) (fun a f ha _ _ => oq a (ha.2.2 i hi))⟩
/-- a row is put at the place i -/
theorem rk_one.put {g1 : Nat → Option Nat} {q i : Nat} {f : Nat → Int32} (a2 : ∀ j f, N j = some f → ∃ a, g1 j = some a ∧ nk_D D cI ad am a n f H1 ∧ a ≠ am 18 ∧ a ≠ am 20) (h1 : nk_O D cG ad am (am k) (va_up g1 i (some q)) H1) (h2 : nk_D D cI ad am q n f H1) (h3 : q ≠ am 18) (h4 : q ≠ am 20) : rk_one D cI cG ad am k n (va_up N i (some f)) H1 := by
  refine ⟨_, h1, fun j f1 hj => ?_⟩
  by_cases e : j = i
  · subst e
    rw [va_up_self] at hj
    cases hj
    exact ⟨q, va_up_self _ _ _, h2, h3, h4⟩
  · rw [va_up_ne _ _ e] at hj
    obtain ⟨a, b1, b2, b3, b4⟩ := a2 j f1 hj
    exact ⟨a, by rw [va_up_ne _ _ e]; exact b1, b2, b3, b4⟩
end RKW
section LKL
variable {p : Program} {l : Launch} {e : Env} {R : Room} {s : State} {m : MethodId} {args : Array Value} {below : List Frame} {meth : Method} {c : Code} {H : Heap} {locs : List Loc} {cells slots : Nat} {Q : State → Prop}
variable {D : va_G} {cI cZ cG cL : ClassId} {ad am : Nat → Nat} {σ : nk_C} {ρ : lk_R} {cc : ByteArray} {pc nL mc ms : Nat} {ls : Array Slot} {rest st0 : List Value} {X : Heap → Prop} {A : Nat → Prop} {q1 q2 q3 b0 L : Nat} {xs : Nat → Int32}
variable {y : MethodName} {ws : List Cond} {rm : Room} {own C : String} {index n maxL : Nat} {bytes : ByteArray} {ret : Option FieldType} {hh : List (Nat × Nat × Nat × Nat)} {Ts : List Cond} {b : Addr} {As : List Value}
/-- a row read out of the rows of rows -/
theorem rk_aald {k n9 : Nat} {N : Nat → Option (Nat → Int32)} (hexec : p.tables.exec = Jvm.exec) (hb : c.code = cc) (hK : gk_K D cI cZ cG cL s) (h : rk_one D cI cG ad am k n9 N H) {i : Int32} (hin : vp_in i 20) {f : Nat → Int32} (hf : N i.toNatClampNeg = some f) (hdg : decode cc pc = .ok (.aaload, 1))
    (kk : ∀ a : Nat, nk_D D cI ad am a n9 f H → a ≠ am 18 → a ≠ am 20 → W p l e R s m args below meth c H locs cells slots Q (F0 m (pc + 1) ls (.ref a :: rest))) : W p l e R s m args below meth c H locs cells slots Q (F0 m pc ls (.int i :: .ref (am k) :: rest)) := by
  obtain ⟨g, h1, h2⟩ := h
  obtain ⟨a, e1, e2, e3, e4⟩ := h2 _ _ hf
  have hlt : i.toNatClampNeg < 20 := Nat.not_le.mp fun q => hin (Or.inr q)
  have h3 : va_at D vwCl (am k, .inl (cG, (20, .inr (.inr (.inr (.inr g)))))) H := h1.1
  clear h1 h2
  generalize e9 : am k = a9 at h3 ⊢
  generalize e8 : (20 : Nat) = N9 at h3 hlt hin
  exact W.aald (v := .ref a) hexec hb h3 ((hK.1.2 2 (cG, .array .int) rfl).1 N9 (fun j => va_rf (g j))) rfl (fun q => by cases q) (by show ¬ (i < 0 ∨ (arrV _ _ _).slots.size ≤ _); rw [arrV_size]; exact hin) (by show (arrV _ _ _).slots[_]? = _; rw [arrV_read _ _ hlt, e1]; rfl) rfl rfl hdg (kk a e2 e3 e4)
/-- a row of a rule is put at another place -/
theorem rk_ast {H0 : Heap} (hexec : p.tables.exec = Jvm.exec) (hb : c.code = cc) (hK : gk_K D cI cZ cG cL s) (hW : nk_W D cI cZ cL ad am b0 σ H) (hR : rk_W D cI cG ad am ρ H) (hD : lk_D H0.size ad am) (hS : va_S (lo_A H0.size) H0 H locs) {v : Nat} {f : Nat → Int32} (hv : nk_D D cI ad am v 9 f H) (h18 : v ≠ am 18) (h20 : v ≠ am 20) {i : Int32} (hin : vp_in i 20) (hdg : decode cc pc = .ok (.aastore, 1))
    (kk : ∀ (H1 : Heap) (locs1 : List Loc), nk_W D cI cZ cL ad am b0 σ H1 → rk_W D cI cG ad am (va_up ρ.1 i.toNatClampNeg (some f), ρ.2) H1 → (∀ z, z ≠ am 18 → H1[z]? = H[z]?) → va_S (lo_A H0.size) H0 H1 locs1 → W p l e R s m args below meth c H1 locs1 cells slots Q (F0 m (pc + 1) ls rest)) : W p l e R s m args below meth c H locs cells slots Q (F0 m pc ls (.ref v :: .int i :: .ref (am 18) :: rest)) := by
  obtain ⟨⟨g, h1, h2⟩, hR2⟩ := hR
  refine nk_astg hexec hb hK hS hD.2.2.1 h1.1 hv.1 hin hdg (fun H1 locs1 h3 oq hz hS1 => kk H1 locs1 (hW.keptN h1.2.1 h1.2.2 oq) ⟨rk_one.put (g1 := g) (fun j f1 hj => ?_) ⟨h3, h1.2⟩ (hv.oq oq h18) h18 h20, hR2.by (oq _ (Ne.symm hD.2.2.2.2)) (fun a f1 _ ha _ => oq a ha)⟩ oq hS1)
  obtain ⟨a, b1, b2, b3, b4⟩ := h2 j f1 hj
  exact ⟨a, b1, b2.oq oq b3, b3, b4⟩
/-- bind: it may throw within, never out -/
theorem nk_callX {Qp : Int32 → nk_C → Prop} (C0 : CallFix p m c cc nL s args Ts own) (hM : vx_Met l y ws rm (nk_Pc D cI cZ cG cL ad am q1 q2 q3 b0 L xs (.ref b :: As) H.size σ X) (va_Qi Qp (nk_B D cI cZ cL ad am b0) (nk_A ad am H.size)) nk_XF mc ms (nk_A ad am H.size)) (cw : vx_CVW R s args own C index y bytes maxL ret hh ws rm mc ms n)
    (hrecv : ∃ cell : Cell, H[b]? = some cell ∧ cell.vm.isStatics = false ∧ s.vm.findClass C = some cell.cls) (hW : nk_W D cI cZ cL ad am b0 σ H) (hK : gk_K D cI cZ cG cL s) (hZ : nk_Z q1 q2 q3 b0 L xs A s s.heap) (hX : X H) (hS : va_S A s.heap H locs) (hA : ∀ q, nk_A ad am H.size q → A q) (hn : As.length = n) (hsz : ls.size = nL) (hst : st0 = As.reverse ++ .ref b :: rest)
    (hrm : 2 * (F0 m pc ls st0).monitorRoom + (rest.map fun v => v.category).sum ≤ 8) (hdg : decode cc pc = .ok (.invokevirtual index, 3)) (hf : cells + mc ≤ R.cells ∧ slots + ms ≤ R.slots)
    (kk : ∀ (r : Int32) (u : nk_C) (H1 : Heap) (locs1 : List Loc), Qp r u → nk_W D cI cZ cL ad am b0 u H1 → H.size ≤ H1.size → (∀ q : Nat, q < H.size → ¬ nk_A ad am H.size q → H1[q]? = H[q]?) → va_S A s.heap H1 locs1 → W p l e R s m args below meth c H1 locs1 (cells + mc) (slots + ms) Q (F0 m (pc + 3) ls (.int r :: rest))) : W p l e R s m args below meth c H locs cells slots Q (F0 m pc ls st0) := by
  refine vx_calli (A0 := A) (H0 := s.heap) (vx_runVX (As := As) (rest := rest) C0 hM cw ⟨nk_blind, hrecv, fun U hU hW' => ⟨rfl, by rw [hU], by rw [hU]; exact hW, hK.warm hW', hZ.to hS hA hU hW', by rw [hU]; exact hX⟩⟩ rfl hn hsz hst hrm hdg hf) hS (fun q _ h => hA q h) hA (fun q _ h => False.elim h) ?_ ?_
  · intro E ce q9 u t H1 locs1 hH ha hu
    exact False.elim hu
  · intro r u t H1 locs1 hH ha hu hB hz hq hS1
    exact kk r u H1 locs1 hu (by rw [← hH]; exact hB) hz hq hS1
/-- isByOne -/
theorem nk_callXS {Qp : Int32 → nk_C → Prop} (C0 : CallFix p m c cc nL s args Ts own) (hM : vx_Met l y ws rm (nk_Pc D cI cZ cG cL ad am q1 q2 q3 b0 L xs As H.size σ X) (va_Qi Qp (nk_B D cI cZ cL ad am b0) (nk_A ad am H.size)) nk_XF mc ms (nk_A ad am H.size)) (cw : vx_CSW R s args own index y bytes maxL ret hh ws rm mc ms n)
    (hW : nk_W D cI cZ cL ad am b0 σ H) (hK : gk_K D cI cZ cG cL s) (hZ : nk_Z q1 q2 q3 b0 L xs A s s.heap) (hX : X H) (hS : va_S A s.heap H locs) (hA : ∀ q, nk_A ad am H.size q → A q) (hn : As.length = n) (hsz : ls.size = nL) (hst : st0 = As.reverse ++ rest)
    (hrm : 2 * (F0 m pc ls st0).monitorRoom + (rest.map fun v => v.category).sum ≤ 8) (hdg : decode cc pc = .ok (.invokestatic index, 3)) (hf : cells + mc ≤ R.cells ∧ slots + ms ≤ R.slots)
    (kk : ∀ (r : Int32) (u : nk_C) (H1 : Heap) (locs1 : List Loc), Qp r u → nk_W D cI cZ cL ad am b0 u H1 → H.size ≤ H1.size → (∀ q : Nat, q < H.size → ¬ nk_A ad am H.size q → H1[q]? = H[q]?) → va_S A s.heap H1 locs1 → W p l e R s m args below meth c H1 locs1 (cells + mc) (slots + ms) Q (F0 m (pc + 3) ls (.int r :: rest))) : W p l e R s m args below meth c H locs cells slots Q (F0 m pc ls st0) := by
  refine vx_calli (A0 := A) (H0 := s.heap) (vx_runSX (As := As) (rest := rest) C0 hM cw ⟨nk_blind, fun U hU hW' => ⟨rfl, by rw [hU], by rw [hU]; exact hW, hK.warm hW', hZ.to hS hA hU hW', by rw [hU]; exact hX⟩⟩ rfl hn hsz hst hrm hdg hf) hS (fun q _ h => hA q h) hA (fun q _ h => False.elim h) ?_ ?_
  · intro E ce q9 u t H1 locs1 hH ha hu
    exact False.elim hu
  · intro r u t H1 locs1 hH ha hu hB hz hq hS1
    exact kk r u H1 locs1 hu (by rw [← hH]; exact hB) hz hq hS1
/-- table -/
theorem nk_callTab {Qp : Nat → (Nat → Int32) → nk_C → Prop} (C0 : CallFix p m c cc nL s args Ts own) (hM : Met l y ws rm (nk_Pc D cI cZ cG cL ad am q1 q2 q3 b0 L xs As H.size σ X) (va_Qr (fun (u : nk_C × Nat × (Nat → Int32)) => Qp u.2.1 u.2.2 u.1) (fun u a t => nk_W D cI cZ cL ad am b0 u.1 t.heap ∧ nk_D D cI ad am a u.2.1 u.2.2 t.heap ∧ H.size ≤ a) (nk_A ad am H.size)) mc ms (nk_A ad am H.size)) (cw : CallB R s args own index y bytes maxL ret ws rm mc ms n ∧ (Cond.static y).before args s = true)
    (hW : nk_W D cI cZ cL ad am b0 σ H) (hK : gk_K D cI cZ cG cL s) (hZ : nk_Z q1 q2 q3 b0 L xs A s s.heap) (hX : X H) (hS : va_S A s.heap H locs) (hA : ∀ q, nk_A ad am H.size q → A q) (hn : As.length = n) (hsz : ls.size = nL) (hst : st0 = As.reverse ++ rest)
    (hrm : 2 * (F0 m pc ls st0).monitorRoom + (rest.map fun v => v.category).sum ≤ 8) (hdg : decode cc pc = .ok (.invokestatic index, 3)) (hf : cells + mc ≤ R.cells ∧ slots + ms ≤ R.slots)
    (kk : ∀ (n9 : Nat) (f : Nat → Int32) (u : nk_C) (a : Nat) (H1 : Heap) (locs1 : List Loc), Qp n9 f u → nk_W D cI cZ cL ad am b0 u H1 → nk_D D cI ad am a n9 f H1 → H.size ≤ a → H.size ≤ H1.size → (∀ q : Nat, q < H.size → ¬ nk_A ad am H.size q → H1[q]? = H[q]?) → va_S A s.heap H1 locs1 → W p l e R s m args below meth c H1 locs1 (cells + mc) (slots + ms) Q (F0 m (pc + 3) ls (.ref a :: rest))) : W p l e R s m args below meth c H locs cells slots Q (F0 m pc ls st0) :=
  va_callr (va_runS C0 hM cw ⟨nk_blind, fun U hU hW' => ⟨rfl, by rw [hU], by rw [hU]; exact hW, hK.warm hW', hZ.to hS hA hU hW', by rw [hU]; exact hX⟩⟩ rfl hn hsz hst hrm hdg hf) hS (fun q _ h => hA q h) hA (fun u a t H1 locs1 ht _ hw hB hz hk hS1 => kk u.2.1 u.2.2 u.1 a H1 locs1 hw (by subst ht; exact hB.1) (by subst ht; exact hB.2.1) hB.2.2 hz hk hS1)
/-- addRule -/
theorem nk_callO18 (C0 : CallFix p m c cc nL s args Ts own) {K : Int32 → nk_C → (Nat → Option (Nat → Int32)) → Prop}
    (hM : ∀ g : Nat → Option Nat, ∃ Qp : Int32 → nk_C → (Nat → Option Nat) → Nat → (Nat → Int32) → Prop, (∀ r u g1 q f, Qp r u g1 q f → ∃ i : Nat, g1 = va_up g i (some q) ∧ K r u (va_up ρ.1 i (some f))) ∧ Met l y ws rm (nk_PcO 18 D cI cZ cG cL ad am q1 q2 q3 b0 L xs (.ref b :: As) H.size σ g) (va_Qi (fun r (u : nk_C × (Nat → Option Nat) × Nat × (Nat → Int32)) => Qp r u.1 u.2.1 u.2.2.1 u.2.2.2) (fun u t => nk_W D cI cZ cL ad am b0 u.1 t.heap ∧ nk_O D cG ad am (am 18) u.2.1 t.heap ∧ nk_D D cI ad am u.2.2.1 9 u.2.2.2 t.heap ∧ H.size ≤ u.2.2.1) (nk_A1 ad am 18 H.size)) mc ms (nk_A1 ad am 18 H.size)) (cw : CallW R s args own C index y bytes maxL ret ws rm mc ms n)
    (hrecv : ∃ cell : Cell, H[b]? = some cell ∧ cell.vm.isStatics = false ∧ s.vm.findClass C = some cell.cls) (hW : nk_W D cI cZ cL ad am b0 σ H) (hR : rk_W D cI cG ad am ρ H) (hD : lk_D s.heap.size ad am) (hK : gk_K D cI cZ cG cL s) (hZ : nk_Z q1 q2 q3 b0 L xs (lo_A s.heap.size) s s.heap) (hS : va_S (lo_A s.heap.size) s.heap H locs) (hn : As.length = n) (hsz : ls.size = nL) (hst : st0 = As.reverse ++ .ref b :: rest)
    (hrm : 2 * (F0 m pc ls st0).monitorRoom + (rest.map fun v => v.category).sum ≤ 8) (hdg : decode cc pc = .ok (.invokevirtual index, 3)) (hf : cells + mc ≤ R.cells ∧ slots + ms ≤ R.slots)
    (kk : ∀ (r : Int32) (u : nk_C) (N : Nat → Option (Nat → Int32)) (H1 : Heap) (locs1 : List Loc), K r u N → nk_W D cI cZ cL ad am b0 u H1 → rk_W D cI cG ad am (N, ρ.2) H1 → (∀ q : Nat, q < H.size → ¬ nk_A1 ad am 18 H.size q → H1[q]? = H[q]?) → va_S (lo_A s.heap.size) s.heap H1 locs1 → W p l e R s m args below meth c H1 locs1 (cells + mc) (slots + ms) Q (F0 m (pc + 3) ls (.int r :: rest))) : W p l e R s m args below meth c H locs cells slots Q (F0 m pc ls st0) := by
  obtain ⟨g, h1, h2⟩ := hR.1
  obtain ⟨Qp, hQ, hM⟩ := hM g
  have hA := hD.up1 (k := 18) (by decide) hS.1
  have hR0 := hR
  refine va_calli (va_runV C0 hM cw ⟨nk_blindO, hrecv, fun U hU hW' => ⟨rfl, by rw [hU], by rw [hU]; exact hW, hK.warm hW', hZ.to hS hA hU hW', by rw [hU]; exact h1⟩⟩ rfl hn hsz hst hrm hdg hf) hS (fun q _ h => hA q h) hA (fun r u t H1 locs1 ht _ hw hB hz hk hS1 => ?_)
  subst ht
  obtain ⟨b1, b2, b3, b4⟩ := hB
  obtain ⟨i, e1, e2⟩ := hQ r u.1 u.2.1 u.2.2.1 u.2.2.2 hw
  rw [e1] at b2
  have n1 : u.2.2.1 ≠ am 18 := by have := hR.1.lt; omega
  have n2 : u.2.2.1 ≠ am 20 := by have := hR.2.lt; omega
  have kp : ∀ a n f, nk_D D cI ad am a n f H → a ≠ am 18 → a ≠ am 20 → t.heap[a]? = H[a]? := fun a n f ha p1 p2 => hk a ha.1.lt (fun q => q.elim p1 (fun q => ha.nA q))
  refine kk r u.1 _ t.heap locs1 e2 b1 ⟨rk_one.put (g1 := g) (fun j f1 hj => by obtain ⟨a, c1, c2, c3, c4⟩ := h2 j f1 hj; exact ⟨a, c1, ⟨c2.1.kept (kp a 9 f1 c2 c3 c4), c2.2⟩, c3, c4⟩) b2 b3 n1 n2, hR.2.by (hk _ hR.2.lt (fun q => q.elim (Ne.symm hD.2.2.2.2) (fun q => hR.2.nA q))) (fun a f ha p1 p2 => kp a 6 f ha p1 p2)⟩ hk hS1
/-- addGrant -/
theorem nk_callO20 (C0 : CallFix p m c cc nL s args Ts own) {K : Int32 → nk_C → (Nat → Option (Nat → Int32)) → Prop}
    (hM : ∀ g : Nat → Option Nat, ∃ Qp : Int32 → nk_C → (Nat → Option Nat) → Nat → (Nat → Int32) → Prop, (∀ r u g1 q f, Qp r u g1 q f → ∃ i : Nat, g1 = va_up g i (some q) ∧ K r u (va_up ρ.2 i (some f))) ∧ Met l y ws rm (nk_PcO 20 D cI cZ cG cL ad am q1 q2 q3 b0 L xs (.ref b :: As) H.size σ g) (va_Qi (fun r (u : nk_C × (Nat → Option Nat) × Nat × (Nat → Int32)) => Qp r u.1 u.2.1 u.2.2.1 u.2.2.2) (fun u t => nk_W D cI cZ cL ad am b0 u.1 t.heap ∧ nk_O D cG ad am (am 20) u.2.1 t.heap ∧ nk_D D cI ad am u.2.2.1 6 u.2.2.2 t.heap ∧ H.size ≤ u.2.2.1) (nk_A1 ad am 20 H.size)) mc ms (nk_A1 ad am 20 H.size)) (cw : CallW R s args own C index y bytes maxL ret ws rm mc ms n)
    (hrecv : ∃ cell : Cell, H[b]? = some cell ∧ cell.vm.isStatics = false ∧ s.vm.findClass C = some cell.cls) (hW : nk_W D cI cZ cL ad am b0 σ H) (hR : rk_W D cI cG ad am ρ H) (hD : lk_D s.heap.size ad am) (hK : gk_K D cI cZ cG cL s) (hZ : nk_Z q1 q2 q3 b0 L xs (lo_A s.heap.size) s s.heap) (hS : va_S (lo_A s.heap.size) s.heap H locs) (hn : As.length = n) (hsz : ls.size = nL) (hst : st0 = As.reverse ++ .ref b :: rest)
    (hrm : 2 * (F0 m pc ls st0).monitorRoom + (rest.map fun v => v.category).sum ≤ 8) (hdg : decode cc pc = .ok (.invokevirtual index, 3)) (hf : cells + mc ≤ R.cells ∧ slots + ms ≤ R.slots)
    (kk : ∀ (r : Int32) (u : nk_C) (N : Nat → Option (Nat → Int32)) (H1 : Heap) (locs1 : List Loc), K r u N → nk_W D cI cZ cL ad am b0 u H1 → rk_W D cI cG ad am (ρ.1, N) H1 → (∀ q : Nat, q < H.size → ¬ nk_A1 ad am 20 H.size q → H1[q]? = H[q]?) → va_S (lo_A s.heap.size) s.heap H1 locs1 → W p l e R s m args below meth c H1 locs1 (cells + mc) (slots + ms) Q (F0 m (pc + 3) ls (.int r :: rest))) : W p l e R s m args below meth c H locs cells slots Q (F0 m pc ls st0) := by
  obtain ⟨g, h1, h2⟩ := hR.2
  obtain ⟨Qp, hQ, hM⟩ := hM g
  have hA := hD.up1 (k := 20) (by decide) hS.1
  have hR0 := hR
  refine va_calli (va_runV C0 hM cw ⟨nk_blindO, hrecv, fun U hU hW' => ⟨rfl, by rw [hU], by rw [hU]; exact hW, hK.warm hW', hZ.to hS hA hU hW', by rw [hU]; exact h1⟩⟩ rfl hn hsz hst hrm hdg hf) hS (fun q _ h => hA q h) hA (fun r u t H1 locs1 ht _ hw hB hz hk hS1 => ?_)
  subst ht
  obtain ⟨b1, b2, b3, b4⟩ := hB
  obtain ⟨i, e1, e2⟩ := hQ r u.1 u.2.1 u.2.2.1 u.2.2.2 hw
  rw [e1] at b2
  have n1 : u.2.2.1 ≠ am 18 := by have := hR.1.lt; omega
  have n2 : u.2.2.1 ≠ am 20 := by have := hR.2.lt; omega
  have kp : ∀ a n f, nk_D D cI ad am a n f H → a ≠ am 18 → a ≠ am 20 → t.heap[a]? = H[a]? := fun a n f ha p1 p2 => hk a ha.1.lt (fun q => q.elim p2 (fun q => ha.nA q))
  refine kk r u.1 _ t.heap locs1 e2 b1 ⟨hR.1.by (hk _ hR.1.lt (fun q => q.elim hD.2.2.2.2 (fun q => hR.1.nA q))) (fun a f ha p1 p2 => kp a 9 f ha p1 p2), rk_one.put (g1 := g) (fun j f1 hj => by obtain ⟨a, c1, c2, c3, c4⟩ := h2 j f1 hj; exact ⟨a, c1, ⟨c2.1.kept (kp a 6 f1 c2 c3 c4), c2.2⟩, c3, c4⟩) b2 b3 n1 n2⟩ hk hS1
end LKL
