/-! ===== the gate's world: what a store makes of it; calls within it ===== -/
section GKS
variable {D : va_G} {cI : ClassId} {ad : Nat → Nat} {σ : gk_C} {H H1 : Heap}
theorem gk_W.setO (h : gk_W D cI ad σ H) {k i : Nat} {v : Int32} (hk : k < 7) (h1 : va_at D vwCl (ad k, gk_o ad (va_up σ.2 i v) k) H1) (oq : ∀ q, q ≠ ad k → H1[q]? = H[q]?)
    (ho : ∀ j, j < 7 → j ≠ k → gk_o ad (va_up σ.2 i v) j = gk_o ad σ.2 j) (hv : ∀ w, w < 2 → gk_v ad (va_up σ.2 i v) w = gk_v ad σ.2 w) : gk_W D cI ad (gk_s σ i v) H1 := by
  have ne : ∀ j, j < 87 → j ≠ k → H1[ad j]? = H[ad j]? := fun j hj hn => oq _ (fun e => hn (h.1 j k hj (by omega) e))
  refine ⟨h.1, fun j hj => ?_, fun w hw => ?_, fun r hr => ?_, fun r hr => ?_⟩
  · by_cases hjk : j = k
    · subst hjk
      exact h1
    · show va_at D vwCl (ad j, gk_o ad (va_up σ.2 i v) j) H1
      rw [ho j hj hjk]
      exact (h.2.1 j hj).kept (ne j (by omega) hjk)
  · show va_at D vwCl (ad (7 + w), gk_v ad (va_up σ.2 i v) w) H1
    rw [hv w hw]
    exact (h.2.2.1 w hw).kept (ne _ (by omega) (by omega))
  · exact (h.2.2.2.1 r hr).kept (ne _ (by omega) (by omega))
  · exact (h.2.2.2.2 r hr).kept (ne _ (by omega) (by omega))
theorem gk_W.setV (h : gk_W D cI ad σ H) {v i : Nat} {x : Int32} (hv : v < 2) (h1 : va_at D vwCl (ad (7 + v), gk_v ad (va_up σ.2 i x) v) H1) (oq : ∀ q, q ≠ ad (7 + v) → H1[q]? = H[q]?)
    (ho : ∀ j, j < 7 → gk_o ad (va_up σ.2 i x) j = gk_o ad σ.2 j) (hw : ∀ w, w < 2 → w ≠ v → gk_v ad (va_up σ.2 i x) w = gk_v ad σ.2 w) : gk_W D cI ad (gk_s σ i x) H1 := by
  have ne : ∀ j, j < 87 → j ≠ 7 + v → H1[ad j]? = H[ad j]? := fun j hj hn => oq _ (fun e => hn (h.1 j (7 + v) hj (by omega) e))
  refine ⟨h.1, fun j hj => ?_, fun w hw2 => ?_, fun r hr => ?_, fun r hr => ?_⟩
  · show va_at D vwCl (ad j, gk_o ad (va_up σ.2 i x) j) H1
    rw [ho j hj]
    exact (h.2.1 j hj).kept (ne j (by omega) (by omega))
  · by_cases hwv : w = v
    · subst hwv
      exact h1
    · show va_at D vwCl (ad (7 + w), gk_v ad (va_up σ.2 i x) w) H1
      rw [hw w hw2 hwv]
      exact (h.2.2.1 w hw2).kept (ne _ (by omega) (by omega))
  · exact (h.2.2.2.1 r hr).kept (ne _ (by omega) (by omega))
  · exact (h.2.2.2.2 r hr).kept (ne _ (by omega) (by omega))
theorem gk_W.setR (h : gk_W D cI ad σ H) {r : Nat} {f : Nat → Int32} (hr : r < 39) (h1 : va_at D vwCl (ad (48 + r), .inl (cI, (gk_rl r, .inl f))) H1) (oq : ∀ q, q ≠ ad (48 + r) → H1[q]? = H[q]?) : gk_W D cI ad (gk_r σ r f) H1 := by
  have ne : ∀ j, j < 87 → j ≠ 48 + r → H1[ad j]? = H[ad j]? := fun j hj hn => oq _ (fun e => hn (h.1 j (48 + r) hj (by omega) e))
  refine ⟨h.1, fun j hj => (h.2.1 j hj).kept (ne j (by omega) (by omega)), fun w hw => (h.2.2.1 w hw).kept (ne _ (by omega) (by omega)), fun k hk => (h.2.2.2.1 k hk).kept (ne _ (by omega) (by omega)), fun k hk => ?_⟩
  by_cases hkr : k = r
  · subst hkr
    show va_at D vwCl (ad (48 + k), .inl (cI, (gk_rl k, .inl (va_up σ.1 k f k)))) H1
    rw [show va_up σ.1 k f k = f by simp [va_up]]
    exact h1
  · show va_at D vwCl (ad (48 + k), .inl (cI, (gk_rl k, .inl (va_up σ.1 r f k)))) H1
    rw [show va_up σ.1 r f k = σ.1 k by simp [va_up, hkr]]
    exact (h.2.2.2.2 k hk).kept (ne _ (by omega) (by omega))
theorem gk_oS {S : Nat → Int32} {i j : Nat} {x : Int32} (hi : 8 ≤ i) : gk_o ad (va_up S i x) j = gk_o ad S j := by
  have e : ∀ t, t < 8 → va_up S i x t = S t := fun t ht => va_up_ne _ _ (by omega)
  simp only [gk_o, e 0 (by decide), e 1 (by decide), e 2 (by decide), e 3 (by decide), e 4 (by decide), e 5 (by decide), e 6 (by decide), e 7 (by decide)]
theorem gk_vS {S : Nat → Int32} {i w : Nat} {x : Int32} (hi : i < 8 + 4 * w ∨ 12 + 4 * w ≤ i) : gk_v ad (va_up S i x) w = gk_v ad S w := by
  simp only [gk_v, va_up_ne S x (show 8 + 4 * w ≠ i by omega), va_up_ne S x (show 9 + 4 * w ≠ i by omega), va_up_ne S x (show 10 + 4 * w ≠ i by omega), va_up_ne S x (show 11 + 4 * w ≠ i by omega)]
end GKS
def gk_Pc (D : va_G) (cI cZ cG cL : ClassId) (ad : Nat → Nat) (av : List Value) (sz : Nat) (σ : gk_C) : Array Value → State → Prop := va_Pc av (fun U => U.heap.size = sz ∧ gk_W D cI ad σ U.heap ∧ gk_K D cI cZ cG cL U)
theorem gk_blind {D : va_G} {cI cZ cG cL : ClassId} {ad : Nat → Nat} {av : List Value} {sz : Nat} {σ : gk_C} : FrameBlind (gk_Pc D cI cZ cG cL ad av sz σ) := fun _ _ _ _ q => ⟨q.1, q.2.1, q.2.2.1, gk_K.blind q.2.2.2⟩
abbrev gk_B (D : va_G) (cI : ClassId) (ad : Nat → Nat) : gk_C → State → Prop := fun u t => gk_W D cI ad u t.heap
def gk_F (p : Program) (s : State) (m : MethodId) (args : Array Value) (meth : Method) (c : Code) (cc : ByteArray) (nL : Nat) (ret : Option FieldType) (own : String) : Prop :=
  p.tables.exec = Jvm.exec ∧ c.code = cc ∧ c.maxLocals = nL ∧ s.vm.findClass own = some m.cls ∧ (∀ w ∈ gk_BG, w.before args s = true) ∧ meth.sig.returnType = ret ∧ meth.locks = false
section GKL
variable {p : Program} {l : Launch} {e : Env} {R : Room} {s : State} {m : MethodId} {args : Array Value} {below : List Frame} {meth : Method} {c : Code} {H : Heap} {locs : List Loc} {cells slots : Nat} {Q : State → Prop}
variable {D : va_G} {cI cZ cG cL : ClassId} {ad : Nat → Nat} {σ : gk_C} {cc : ByteArray} {pc nL : Nat} {ls : Array Slot} {rest st0 : List Value}
variable {y : MethodName} {ws : List Cond} {rm : Room} {own C : String} {index n maxL : Nat} {bytes : ByteArray} {ret : Option FieldType} {Ts : List Cond} {b : Addr} {As : List Value}
theorem gk_callVi {Qp : Int32 → gk_C → Prop} (C0 : CallFix p m c cc nL s args Ts own) (hM : Met l y ws rm (gk_Pc D cI cZ cG cL ad (.ref b :: As) H.size σ) (va_Qi Qp (gk_B D cI ad) (gk_A ad H.size)) 0 0 (gk_A ad H.size)) (cw : CallW R s args own C index y bytes maxL ret ws rm 0 0 n)
    (hrecv : ∃ cell : Cell, H[b]? = some cell ∧ cell.vm.isStatics = false ∧ s.vm.findClass C = some cell.cls) (hW : gk_W D cI ad σ H) (hK : gk_K D cI cZ cG cL s) (hS : va_S (gk_A ad s.heap.size) s.heap H locs) (hn : As.length = n) (hsz : ls.size = nL) (hst : st0 = As.reverse ++ .ref b :: rest)
    (hrm : 2 * (F0 m pc ls st0).monitorRoom + (rest.map fun v => v.category).sum ≤ 8) (hdg : decode cc pc = .ok (.invokevirtual index, 3)) (hf : cells ≤ R.cells ∧ slots ≤ R.slots)
    (kk : ∀ (r : Int32) (u : gk_C) (H1 : Heap) (locs1 : List Loc), Qp r u → gk_W D cI ad u H1 → H.size ≤ H1.size → va_S (gk_A ad s.heap.size) s.heap H1 locs1 → W p l e R s m args below meth c H1 locs1 cells slots Q (F0 m (pc + 3) ls (.int r :: rest))) : W p l e R s m args below meth c H locs cells slots Q (F0 m pc ls st0) :=
  va_calli (va_runV C0 hM cw ⟨gk_blind, hrecv, fun U hU hW' => ⟨rfl, by rw [hU], by rw [hU]; exact hW, hK.warm hW'⟩⟩ rfl hn hsz hst hrm hdg hf) hS (fun q _ h => gk_A.up hS.1 q h) (gk_A.up hS.1) (fun r u t H1 locs1 ht _ hw hB hz _ hS1 => kk r u H1 locs1 hw (by subst ht; exact hB) hz hS1)
theorem gk_callVl {Qp : Int64 → gk_C → Prop} (C0 : CallFix p m c cc nL s args Ts own) (hM : Met l y ws rm (gk_Pc D cI cZ cG cL ad (.ref b :: As) H.size σ) (va_Ql Qp (gk_B D cI ad) (gk_A ad H.size)) 0 0 (gk_A ad H.size)) (cw : CallW R s args own C index y bytes maxL ret ws rm 0 0 n)
    (hrecv : ∃ cell : Cell, H[b]? = some cell ∧ cell.vm.isStatics = false ∧ s.vm.findClass C = some cell.cls) (hW : gk_W D cI ad σ H) (hK : gk_K D cI cZ cG cL s) (hS : va_S (gk_A ad s.heap.size) s.heap H locs) (hn : As.length = n) (hsz : ls.size = nL) (hst : st0 = As.reverse ++ .ref b :: rest)
    (hrm : 2 * (F0 m pc ls st0).monitorRoom + (rest.map fun v => v.category).sum ≤ 8) (hdg : decode cc pc = .ok (.invokevirtual index, 3)) (hf : cells ≤ R.cells ∧ slots ≤ R.slots)
    (kk : ∀ (r : Int64) (u : gk_C) (H1 : Heap) (locs1 : List Loc), Qp r u → gk_W D cI ad u H1 → H.size ≤ H1.size → va_S (gk_A ad s.heap.size) s.heap H1 locs1 → W p l e R s m args below meth c H1 locs1 cells slots Q (F0 m (pc + 3) ls (.long r :: rest))) : W p l e R s m args below meth c H locs cells slots Q (F0 m pc ls st0) :=
  va_calll (va_runV C0 hM cw ⟨gk_blind, hrecv, fun U hU hW' => ⟨rfl, by rw [hU], by rw [hU]; exact hW, hK.warm hW'⟩⟩ rfl hn hsz hst hrm hdg hf) hS (fun q _ h => gk_A.up hS.1 q h) (gk_A.up hS.1) (fun r u t H1 locs1 ht _ hw hB hz _ hS1 => kk r u H1 locs1 hw (by subst ht; exact hB) hz hS1)
theorem gk_callVv {Qp : gk_C → Prop} (C0 : CallFix p m c cc nL s args Ts own) (hM : Met l y ws rm (gk_Pc D cI cZ cG cL ad (.ref b :: As) H.size σ) (va_Qv Qp (gk_B D cI ad) (gk_A ad H.size)) 0 0 (gk_A ad H.size)) (cw : CallW R s args own C index y bytes maxL ret ws rm 0 0 n)
    (hrecv : ∃ cell : Cell, H[b]? = some cell ∧ cell.vm.isStatics = false ∧ s.vm.findClass C = some cell.cls) (hW : gk_W D cI ad σ H) (hK : gk_K D cI cZ cG cL s) (hS : va_S (gk_A ad s.heap.size) s.heap H locs) (hn : As.length = n) (hsz : ls.size = nL) (hst : st0 = As.reverse ++ .ref b :: rest)
    (hrm : 2 * (F0 m pc ls st0).monitorRoom + (rest.map fun v => v.category).sum ≤ 8) (hdg : decode cc pc = .ok (.invokevirtual index, 3)) (hf : cells ≤ R.cells ∧ slots ≤ R.slots)
    (kk : ∀ (u : gk_C) (H1 : Heap) (locs1 : List Loc), Qp u → gk_W D cI ad u H1 → H.size ≤ H1.size → va_S (gk_A ad s.heap.size) s.heap H1 locs1 → W p l e R s m args below meth c H1 locs1 cells slots Q (F0 m (pc + 3) ls rest)) : W p l e R s m args below meth c H locs cells slots Q (F0 m pc ls st0) :=
  va_callv (va_runV C0 hM cw ⟨gk_blind, hrecv, fun U hU hW' => ⟨rfl, by rw [hU], by rw [hU]; exact hW, hK.warm hW'⟩⟩ rfl hn hsz hst hrm hdg hf) hS (fun q _ h => gk_A.up hS.1 q h) (gk_A.up hS.1) (fun u t H1 locs1 ht _ hw hB hz _ hS1 => kk u H1 locs1 hw (by subst ht; exact hB) hz hS1)
theorem gk_callRi {Qr : Int32 → Prop} (C0 : CallFix p m c cc nL s args Ts own) (hM : Met l y ws rm (gk_Pc D cI cZ cG cL ad (.ref b :: As) H.size σ) (va_Qi (fun r u => u = σ ∧ Qr r) (gk_B D cI ad) (gk_A ad H.size)) 0 0 (gk_A ad H.size)) (cw : CallW R s args own C index y bytes maxL ret ws rm 0 0 n)
    (hrecv : ∃ cell : Cell, H[b]? = some cell ∧ cell.vm.isStatics = false ∧ s.vm.findClass C = some cell.cls) (hW : gk_W D cI ad σ H) (hK : gk_K D cI cZ cG cL s) (hS : va_S (gk_A ad s.heap.size) s.heap H locs) (hn : As.length = n) (hsz : ls.size = nL) (hst : st0 = As.reverse ++ .ref b :: rest)
    (hrm : 2 * (F0 m pc ls st0).monitorRoom + (rest.map fun v => v.category).sum ≤ 8) (hdg : decode cc pc = .ok (.invokevirtual index, 3)) (hf : cells ≤ R.cells ∧ slots ≤ R.slots)
    (kk : ∀ (r : Int32) (H1 : Heap) (locs1 : List Loc), Qr r → gk_W D cI ad σ H1 → H.size ≤ H1.size → va_S (gk_A ad s.heap.size) s.heap H1 locs1 → W p l e R s m args below meth c H1 locs1 cells slots Q (F0 m (pc + 3) ls (.int r :: rest))) : W p l e R s m args below meth c H locs cells slots Q (F0 m pc ls st0) :=
  gk_callVi C0 hM cw hrecv hW hK hS hn hsz hst hrm hdg hf (fun r u H1 locs1 hq hW1 hz hS1 => kk r H1 locs1 hq.2 (by rw [← hq.1]; exact hW1) hz hS1)
theorem gk_callRl {Qr : Int64 → Prop} (C0 : CallFix p m c cc nL s args Ts own) (hM : Met l y ws rm (gk_Pc D cI cZ cG cL ad (.ref b :: As) H.size σ) (va_Ql (fun r u => u = σ ∧ Qr r) (gk_B D cI ad) (gk_A ad H.size)) 0 0 (gk_A ad H.size)) (cw : CallW R s args own C index y bytes maxL ret ws rm 0 0 n)
    (hrecv : ∃ cell : Cell, H[b]? = some cell ∧ cell.vm.isStatics = false ∧ s.vm.findClass C = some cell.cls) (hW : gk_W D cI ad σ H) (hK : gk_K D cI cZ cG cL s) (hS : va_S (gk_A ad s.heap.size) s.heap H locs) (hn : As.length = n) (hsz : ls.size = nL) (hst : st0 = As.reverse ++ .ref b :: rest)
    (hrm : 2 * (F0 m pc ls st0).monitorRoom + (rest.map fun v => v.category).sum ≤ 8) (hdg : decode cc pc = .ok (.invokevirtual index, 3)) (hf : cells ≤ R.cells ∧ slots ≤ R.slots)
    (kk : ∀ (r : Int64) (H1 : Heap) (locs1 : List Loc), Qr r → gk_W D cI ad σ H1 → H.size ≤ H1.size → va_S (gk_A ad s.heap.size) s.heap H1 locs1 → W p l e R s m args below meth c H1 locs1 cells slots Q (F0 m (pc + 3) ls (.long r :: rest))) : W p l e R s m args below meth c H locs cells slots Q (F0 m pc ls st0) :=
  gk_callVl C0 hM cw hrecv hW hK hS hn hsz hst hrm hdg hf (fun r u H1 locs1 hq hW1 hz hS1 => kk r H1 locs1 hq.2 (by rw [← hq.1]; exact hW1) hz hS1)
theorem gk_callRv {Qr : Prop} (C0 : CallFix p m c cc nL s args Ts own) (hM : Met l y ws rm (gk_Pc D cI cZ cG cL ad (.ref b :: As) H.size σ) (va_Qv (fun u => u = σ ∧ Qr) (gk_B D cI ad) (gk_A ad H.size)) 0 0 (gk_A ad H.size)) (cw : CallW R s args own C index y bytes maxL ret ws rm 0 0 n)
    (hrecv : ∃ cell : Cell, H[b]? = some cell ∧ cell.vm.isStatics = false ∧ s.vm.findClass C = some cell.cls) (hW : gk_W D cI ad σ H) (hK : gk_K D cI cZ cG cL s) (hS : va_S (gk_A ad s.heap.size) s.heap H locs) (hn : As.length = n) (hsz : ls.size = nL) (hst : st0 = As.reverse ++ .ref b :: rest)
    (hrm : 2 * (F0 m pc ls st0).monitorRoom + (rest.map fun v => v.category).sum ≤ 8) (hdg : decode cc pc = .ok (.invokevirtual index, 3)) (hf : cells ≤ R.cells ∧ slots ≤ R.slots)
    (kk : ∀ (H1 : Heap) (locs1 : List Loc), Qr → gk_W D cI ad σ H1 → H.size ≤ H1.size → va_S (gk_A ad s.heap.size) s.heap H1 locs1 → W p l e R s m args below meth c H1 locs1 cells slots Q (F0 m (pc + 3) ls rest)) : W p l e R s m args below meth c H locs cells slots Q (F0 m pc ls st0) :=
  gk_callVv C0 hM cw hrecv hW hK hS hn hsz hst hrm hdg hf (fun u H1 locs1 hq hW1 hz hS1 => kk H1 locs1 hq.2 (by rw [← hq.1]; exact hW1) hz hS1)
/-- a static method of ints alone: no world -/
def gk_Pn (av : List Value) : Array Value → State → Prop := va_Pc av (fun _ => True)
theorem gk_nblind {av : List Value} : FrameBlind (gk_Pn av) := fun _ _ _ _ q => q
abbrev gk_Bn : Unit → State → Prop := fun _ _ => True
abbrev gk_An : Nat → Prop := fun _ => False
theorem gk_callSi {A : Nat → Prop} {Qp : Int32 → Unit → Prop} (C0 : CallFix p m c cc nL s args Ts own) (hM : Met l y ws rm (gk_Pn As) (va_Qi Qp gk_Bn gk_An) 0 0 gk_An) (cw : CallB R s args own index y bytes maxL ret ws rm 0 0 n ∧ (Cond.static y).before args s = true)
    (hS : va_S A s.heap H locs) (hn : As.length = n) (hsz : ls.size = nL) (hst : st0 = As.reverse ++ rest)
    (hrm : 2 * (F0 m pc ls st0).monitorRoom + (rest.map fun v => v.category).sum ≤ 8) (hdg : decode cc pc = .ok (.invokestatic index, 3)) (hf : cells ≤ R.cells ∧ slots ≤ R.slots)
    (kk : ∀ (r : Int32) (H1 : Heap) (locs1 : List Loc), Qp r () → H.size ≤ H1.size → (∀ q : Nat, q < H.size → H1[q]? = H[q]?) → va_S A s.heap H1 locs1 → W p l e R s m args below meth c H1 locs1 cells slots Q (F0 m (pc + 3) ls (.int r :: rest))) : W p l e R s m args below meth c H locs cells slots Q (F0 m pc ls st0) :=
  va_calli (va_runS C0 hM cw ⟨gk_nblind, fun U hU hW' => ⟨rfl, trivial⟩⟩ rfl hn hsz hst hrm hdg hf) hS (fun q _ h => False.elim h) (fun q h => False.elim h) (fun r u t H1 locs1 ht _ hw hB hz hk hS1 => kk r H1 locs1 hw hz (fun q hq => hk q hq id) hS1)
theorem gk_callSNi {A : Nat → Prop} {host : String} {Qp : Int32 → Unit → Prop} (C0 : CallFix p m c cc nL s args Ts own) (hM : Met l y ws rm (gk_Pn As) (va_Qi Qp gk_Bn gk_An) 0 0 gk_An) (cw : va_CN R s args own index y host bytes maxL ret ws rm 0 0 n ∧ (Cond.static y).before args s = true ∧ True)
    (hS : va_S A s.heap H locs) (hn : As.length = n) (hsz : ls.size = nL) (hst : st0 = As.reverse ++ rest)
    (hrm : 2 * (F0 m pc ls st0).monitorRoom + (rest.map fun v => v.category).sum ≤ 8) (hdg : decode cc pc = .ok (.invokestatic index, 3)) (hf : cells ≤ R.cells ∧ slots ≤ R.slots)
    (kk : ∀ (r : Int32) (H1 : Heap) (locs1 : List Loc), Qp r () → H.size ≤ H1.size → (∀ q : Nat, q < H.size → H1[q]? = H[q]?) → va_S A s.heap H1 locs1 → W p l e R s m args below meth c H1 locs1 cells slots Q (F0 m (pc + 3) ls (.int r :: rest))) : W p l e R s m args below meth c H locs cells slots Q (F0 m pc ls st0) :=
  va_calli (va_runSN C0 hM cw ⟨gk_nblind, fun U hU hW' => ⟨rfl, trivial⟩⟩ rfl hn hsz hst hrm hdg hf) hS (fun q _ h => False.elim h) (fun q h => False.elim h) (fun r u t H1 locs1 ht _ hw hB hz hk hS1 => kk r H1 locs1 hw hz (fun q hq => hk q hq id) hS1)
/-- ends -/
theorem gk_reti {Qp : Int32 → gk_C → Prop} {v : Int32} {u : gk_C} (C0 : gk_F p s m args meth c cc nL (some .int) own) (hq : Qp v u) (hW : gk_W D cI ad u H) (hS : va_S (gk_A ad s.heap.size) s.heap H locs) (hdg : decode cc pc = .ok (.ireturn, 1)) :
    W p l e R s m args below meth c H locs cells slots (MQ below (va_Qi Qp (gk_B D cI ad) (gk_A ad s.heap.size)) args s cells slots (gk_A ad s.heap.size)) (F0 m pc ls [.int v]) :=
  W.iret (v := v) C0.1 C0.2.1 C0.2.2.2.2.2.1 (fun t ht _ => ⟨⟨v, u, rfl, hq, by show gk_W D cI ad u t.heap; rw [ht]; exact hW⟩, hS.F ht⟩) hS.2.2 hdg (hlocks := C0.2.2.2.2.2.2)
theorem gk_retz {Qp : Int32 → gk_C → Prop} {v : Int32} {u : gk_C} (C0 : gk_F p s m args meth c cc nL (some .boolean) own) (hn : narrow .boolean (.int v) = .int v) (hq : Qp v u) (hW : gk_W D cI ad u H) (hS : va_S (gk_A ad s.heap.size) s.heap H locs) (hdg : decode cc pc = .ok (.ireturn, 1)) :
    W p l e R s m args below meth c H locs cells slots (MQ below (va_Qi Qp (gk_B D cI ad) (gk_A ad s.heap.size)) args s cells slots (gk_A ad s.heap.size)) (F0 m pc ls [.int v]) :=
  W.zret (v := v) C0.1 C0.2.1 C0.2.2.2.2.2.1 hn (fun t ht _ => ⟨⟨v, u, rfl, hq, by show gk_W D cI ad u t.heap; rw [ht]; exact hW⟩, hS.F ht⟩) hS.2.2 hdg (hlocks := C0.2.2.2.2.2.2)
theorem gk_retl {Qp : Int64 → gk_C → Prop} {v : Int64} {u : gk_C} (C0 : gk_F p s m args meth c cc nL (some .long) own) (hq : Qp v u) (hW : gk_W D cI ad u H) (hS : va_S (gk_A ad s.heap.size) s.heap H locs) (hdg : decode cc pc = .ok (.lreturn, 1)) :
    W p l e R s m args below meth c H locs cells slots (MQ below (va_Ql Qp (gk_B D cI ad) (gk_A ad s.heap.size)) args s cells slots (gk_A ad s.heap.size)) (F0 m pc ls [.long v]) :=
  W.lret (v := v) C0.1 C0.2.1 C0.2.2.2.2.2.1 (fun t ht _ => ⟨⟨v, u, rfl, hq, by show gk_W D cI ad u t.heap; rw [ht]; exact hW⟩, hS.F ht⟩) hS.2.2 hdg (hlocks := C0.2.2.2.2.2.2)
theorem gk_retv {Qp : gk_C → Prop} {u : gk_C} (C0 : gk_F p s m args meth c cc nL none own) (hq : Qp u) (hW : gk_W D cI ad u H) (hS : va_S (gk_A ad s.heap.size) s.heap H locs) (hdg : decode cc pc = .ok (.return_, 1)) :
    W p l e R s m args below meth c H locs cells slots (MQ below (va_Qv Qp (gk_B D cI ad) (gk_A ad s.heap.size)) args s cells slots (gk_A ad s.heap.size)) (F0 m pc ls []) :=
  W.vret C0.1 C0.2.1 C0.2.2.2.2.2.1 (fun t ht _ => ⟨⟨u, rfl, hq, by show gk_W D cI ad u t.heap; rw [ht]; exact hW⟩, hS.F ht⟩) hS.2.2 hdg (hlocks := C0.2.2.2.2.2.2)
theorem gk_retn {A : Nat → Prop} {Qp : Int32 → Unit → Prop} {v : Int32} (C0 : gk_F p s m args meth c cc nL (some .int) own) (hq : Qp v ()) (hS : va_S A s.heap H locs) (hA : ∀ q, A q → False) (hdg : decode cc pc = .ok (.ireturn, 1)) :
    W p l e R s m args below meth c H locs cells slots (MQ below (va_Qi Qp gk_Bn gk_An) args s cells slots gk_An) (F0 m pc ls [.int v]) :=
  W.iret (v := v) C0.1 C0.2.1 C0.2.2.2.2.2.1 (fun t ht _ => ⟨⟨v, (), rfl, hq, trivial⟩, ⟨by rw [ht]; exact hS.1, fun q h1 _ => by rw [ht]; exact hS.2.1 q h1 (hA q)⟩⟩) (fun q hq => hA _ (hS.2.2 q hq)) hdg (hlocks := C0.2.2.2.2.2.2)
theorem gk_retnz {A : Nat → Prop} {Qp : Int32 → Unit → Prop} {v : Int32} (C0 : gk_F p s m args meth c cc nL (some .boolean) own) (hn : narrow .boolean (.int v) = .int v) (hq : Qp v ()) (hS : va_S A s.heap H locs) (hA : ∀ q, A q → False) (hdg : decode cc pc = .ok (.ireturn, 1)) :
    W p l e R s m args below meth c H locs cells slots (MQ below (va_Qi Qp gk_Bn gk_An) args s cells slots gk_An) (F0 m pc ls [.int v]) :=
  W.zret (v := v) C0.1 C0.2.1 C0.2.2.2.2.2.1 hn (fun t ht _ => ⟨⟨v, (), rfl, hq, trivial⟩, ⟨by rw [ht]; exact hS.1, fun q h1 _ => by rw [ht]; exact hS.2.1 q h1 (hA q)⟩⟩) (fun q hq => hA _ (hS.2.2 q hq)) hdg (hlocks := C0.2.2.2.2.2.2)
end GKL
