/-! ===== the reference's world: one object, 28 rows; arrays that its methods make ===== -/
def mk_ars : List Nat := [4, 5, 6, 8, 10, 12, 13, 14, 15, 17, 18, 19, 20, 21, 22, 23, 24, 25, 27, 28, 29, 30, 31, 32, 33, 34, 36, 37]
def mk_mls : List Nat := [0, 0, 0, 0, 12, 12, 12, 0, 12, 0, 10, 0, 24, 24, 24, 24, 0, 30, 30, 30, 30, 30, 30, 30, 30, 30, 0, 30, 30, 30, 30, 30, 30, 6, 288, 0, 12, 30]
def mk_ml (k : Nat) : Nat := mk_mls.getD k 0
def mk_o (am : Nat → Nat) (S : Nat → Int32) : List Value := [.int (S 0), .int (S 1), .int (S 2), .int (S 3), .ref (am 4), .ref (am 5), .ref (am 6), .int (S 7), .ref (am 8), .int (S 9), .ref (am 10), .int (S 11), .ref (am 12), .ref (am 13), .ref (am 14), .ref (am 15), .int (S 16), .ref (am 17), .ref (am 18), .ref (am 19), .ref (am 20), .ref (am 21), .ref (am 22), .ref (am 23), .ref (am 24), .ref (am 25), .int (S 26), .ref (am 27), .ref (am 28), .ref (am 29), .ref (am 30), .ref (am 31), .ref (am 32), .ref (am 33), .ref (am 34), .int (S 35), .ref (am 36), .ref (am 37)]
def mk_ty (cI cZ : ClassId) (k : Nat) : ClassId := if k = 17 ∨ k = 18 then cZ else cI
def mk_I (am : Nat → Nat) : Prop := ∀ i j, i ∈ 38 :: mk_ars → j ∈ 38 :: mk_ars → am i = am j → i = j
def mk_W (D : va_G) (cI cZ : ClassId) (am : Nat → Nat) (μ : gk_C) (H : Heap) : Prop :=
  mk_I am ∧ va_at D vwCl (am 38, .inr (9, mk_o am μ.2)) H ∧ ∀ k, k ∈ mk_ars → va_at D vwCl (am k, .inl (mk_ty cI cZ k, (mk_ml k, .inl (μ.1 k)))) H
/-- the two rows of scratch (hadNear, numbers) -/
def mk_sc (μ : gk_C) (f g : Nat → Int32) : gk_C := (va_up (va_up μ.1 36 f) 37 g, μ.2)
def mk_V (D : va_G) (cI cZ : ClassId) (am : Nat → Nat) (μ : gk_C) (H : Heap) : Prop := ∃ f g, mk_W D cI cZ am (mk_sc μ f g) H
def mk_A (am : Nat → Nat) (sz : Nat) : Nat → Prop := fun q => (∃ k, k ∈ 38 :: mk_ars ∧ q = am k) ∨ sz ≤ q
theorem mk_A.up {am : Nat → Nat} {sz sz' : Nat} (h : sz ≤ sz') : ∀ q, mk_A am sz' q → mk_A am sz q := fun _ h1 => h1.elim Or.inl (fun h2 => Or.inr (Nat.le_trans h h2))
theorem mk_A.in {am : Nat → Nat} {sz k : Nat} (h : k ∈ 38 :: mk_ars) : mk_A am sz (am k) := Or.inl ⟨k, h, rfl⟩
section MKW
variable {D : va_G} {cI cZ : ClassId} {am : Nat → Nat} {μ : gk_C} {H H1 : Heap}
theorem mk_W.lt (h : mk_W D cI cZ am μ H) {k : Nat} (hk : k ∈ 38 :: mk_ars) : am k < H.size := by
  rcases List.mem_cons.mp hk with rfl | hk
  · exact h.2.1.lt
  · exact (h.2.2 k hk).lt
theorem mk_V.lt (h : mk_V D cI cZ am μ H) {k : Nat} (hk : k ∈ 38 :: mk_ars) : am k < H.size := by
  obtain ⟨f, g, h⟩ := h
  exact h.lt hk
theorem mk_W.kept (h : mk_W D cI cZ am μ H) (hq : ∀ k, k ∈ 38 :: mk_ars → H1[am k]? = H[am k]?) : mk_W D cI cZ am μ H1 :=
  ⟨h.1, h.2.1.kept (hq 38 List.mem_cons_self), fun k hk => (h.2.2 k hk).kept (hq k (List.mem_cons_of_mem _ hk))⟩
theorem mk_W.keptAll (h : mk_W D cI cZ am μ H) (hk : ∀ q, q < H.size → H1[q]? = H[q]?) : mk_W D cI cZ am μ H1 := h.kept (fun _ hk9 => hk _ (h.lt hk9))
theorem mk_V.keptAll (h : mk_V D cI cZ am μ H) (hk : ∀ q, q < H.size → H1[q]? = H[q]?) : mk_V D cI cZ am μ H1 := by
  obtain ⟨f, g, h⟩ := h
  exact ⟨f, g, h.keptAll hk⟩
theorem mk_V.keptN (h : mk_V D cI cZ am μ H) {a : Nat} (ha : ∀ k, k ∈ 38 :: mk_ars → a ≠ am k) (oq : ∀ q, q ≠ a → H1[q]? = H[q]?) : mk_V D cI cZ am μ H1 := by
  obtain ⟨f, g, h⟩ := h
  exact ⟨f, g, h.kept (fun k hk => oq _ (fun e => ha k hk e.symm))⟩
theorem mk_W.V (h : mk_W D cI cZ am μ H) : mk_V D cI cZ am μ H := by
  refine ⟨μ.1 36, μ.1 37, ?_⟩
  have e : mk_sc μ (μ.1 36) (μ.1 37) = μ := by
    unfold mk_sc
    congr 1
    funext k
    by_cases h1 : k = 37
    · subst h1; simp [va_up]
    · by_cases h2 : k = 36
      · subst h2; simp [va_up]
      · simp [va_up, h1, h2]
  rw [e]
  exact h
theorem mk_obj (h : mk_V D cI cZ am μ H) : va_at D vwCl (am 38, .inr (9, mk_o am μ.2)) H := by
  obtain ⟨f, g, h⟩ := h
  exact h.2.1
theorem mk_arr (h : mk_V D cI cZ am μ H) {k : Nat} (hk : k ∈ mk_ars) (h1 : k ≠ 36) (h2 : k ≠ 37) : va_at D vwCl (am k, .inl (mk_ty cI cZ k, (mk_ml k, .inl (μ.1 k)))) H := by
  obtain ⟨f, g, h⟩ := h
  have h3 := h.2.2 k hk
  have e : (mk_sc μ f g).1 k = μ.1 k := by simp [mk_sc, va_up, h1, h2]
  rw [e] at h3
  exact h3
theorem mk_W.setS (h : mk_W D cI cZ am μ H) {i : Nat} {v : Int32} (h1 : va_at D vwCl (am 38, .inr (9, mk_o am (va_up μ.2 i v))) H1) (oq : ∀ q, q ≠ am 38 → H1[q]? = H[q]?) : mk_W D cI cZ am (gk_s μ i v) H1 :=
  ⟨h.1, h1, fun k hk => (h.2.2 k hk).kept (oq _ (fun e => by
    have := h.1 k 38 (List.mem_cons_of_mem _ hk) List.mem_cons_self e
    subst this
    exact absurd hk (by decide)))⟩
theorem mk_V.setS (h : mk_V D cI cZ am μ H) {i : Nat} {v : Int32} (h1 : va_at D vwCl (am 38, .inr (9, mk_o am (va_up μ.2 i v))) H1) (oq : ∀ q, q ≠ am 38 → H1[q]? = H[q]?) : mk_V D cI cZ am (gk_s μ i v) H1 := by
  obtain ⟨f, g, h⟩ := h
  exact ⟨f, g, h.setS h1 oq⟩
theorem mk_W.setR (h : mk_W D cI cZ am μ H) {k : Nat} {f : Nat → Int32} (hk : k ∈ mk_ars) (h1 : va_at D vwCl (am k, .inl (mk_ty cI cZ k, (mk_ml k, .inl f))) H1) (oq : ∀ q, q ≠ am k → H1[q]? = H[q]?) : mk_W D cI cZ am (gk_r μ k f) H1 := by
  have ne : ∀ j, j ∈ 38 :: mk_ars → j ≠ k → H1[am j]? = H[am j]? := fun j hj hn => oq _ (fun e => hn (h.1 j k hj (List.mem_cons_of_mem _ hk) e))
  refine ⟨h.1, h.2.1.kept (ne 38 List.mem_cons_self (fun e => by subst e; exact absurd hk (by decide))), fun j hj => ?_⟩
  by_cases hjk : j = k
  · subst hjk
    show va_at D vwCl (am j, .inl (mk_ty cI cZ j, (mk_ml j, .inl (va_up μ.1 j f j)))) H1
    rw [show va_up μ.1 j f j = f by simp [va_up]]
    exact h1
  · show va_at D vwCl (am j, .inl (mk_ty cI cZ j, (mk_ml j, .inl (va_up μ.1 k f j)))) H1
    rw [va_up_ne _ _ hjk]
    exact (h.2.2 j hj).kept (ne j (List.mem_cons_of_mem _ hj) hjk)
theorem mk_scR {f g h : Nat → Int32} {k : Nat} (h1 : k ≠ 36) (h2 : k ≠ 37) : gk_r (mk_sc μ f g) k h = mk_sc (gk_r μ k h) f g := by
  unfold gk_r mk_sc
  congr 1
  funext j
  by_cases a : j = k
  · subst a; simp [va_up, h1, h2]
  · by_cases b : j = 36
    · subst b; simp [va_up, a]
    · by_cases c : j = 37
      · subst c; simp [va_up, a]
      · simp [va_up, a, b, c]
theorem mk_V.setR (h : mk_V D cI cZ am μ H) {k : Nat} {f : Nat → Int32} (hk : k ∈ mk_ars) (n1 : k ≠ 36) (n2 : k ≠ 37) (h1 : va_at D vwCl (am k, .inl (mk_ty cI cZ k, (mk_ml k, .inl f))) H1) (oq : ∀ q, q ≠ am k → H1[q]? = H[q]?) : mk_V D cI cZ am (gk_r μ k f) H1 := by
  obtain ⟨f0, g0, h⟩ := h
  exact ⟨f0, g0, by rw [← mk_scR n1 n2]; exact h.setR hk h1 oq⟩
/-- an int array that is none of the object's own -/
def mk_D (D : va_G) (cI : ClassId) (am : Nat → Nat) (q n : Nat) (f : Nat → Int32) (H : Heap) : Prop := va_at D vwCl (q, .inl (cI, (n, .inl f))) H ∧ ∀ k, k ∈ 38 :: mk_ars → q ≠ am k
section MKD
variable {q n : Nat} {f : Nat → Int32}
theorem mk_D.nA (h : mk_D D cI am q n f H) : ¬ mk_A am H.size q := by
  rintro (⟨k, hk, e⟩ | h1)
  · exact h.2 k hk e
  · exact absurd h.1.lt (Nat.not_lt.mpr h1)
theorem mk_D.kept (h : mk_D D cI am q n f H) (hk : ∀ z : Nat, z < H.size → ¬ mk_A am H.size z → H1[z]? = H[z]?) : mk_D D cI am q n f H1 := ⟨h.1.kept (hk q h.1.lt h.nA), h.2⟩
theorem mk_D.keptAll (h : mk_D D cI am q n f H) (hk : ∀ z : Nat, z < H.size → H1[z]? = H[z]?) : mk_D D cI am q n f H1 := ⟨h.1.kept (hk q h.1.lt), h.2⟩
theorem mk_D.oq (h : mk_D D cI am q n f H) {a : Nat} (oq : ∀ z, z ≠ a → H1[z]? = H[z]?) (hne : q ≠ a) : mk_D D cI am q n f H1 := ⟨h.1.kept (oq q hne), h.2⟩
theorem mk_D.oqS (h : mk_D D cI am q n f H) {k : Nat} (hk : k ∈ 38 :: mk_ars) (oq : ∀ z, z ≠ am k → H1[z]? = H[z]?) : mk_D D cI am q n f H1 := ⟨h.1.kept (oq q (h.2 k hk)), h.2⟩
theorem mk_D.S {H0 : Heap} {locs : List Loc} (h : mk_D D cI am q n f H0) (hS : va_S (mk_A am H0.size) H0 H locs) : mk_D D cI am q n f H := ⟨h.1.kept (hS.2.1 q h.1.lt h.nA), h.2⟩
end MKD
/-- a row of rows: those that N tells are there; all below B -/
def mk_N (D : va_G) (cI cG : ClassId) (am : Nat → Nat) (q B : Nat) (N : Nat → Option (Nat → Int32)) (H : Heap) : Prop :=
  (∀ k, k ∈ 38 :: mk_ars → q ≠ am k) ∧ q < B ∧ ∃ g : Nat → Option Nat, va_at D vwCl (q, .inl (cG, (12, .inr (.inr (.inr (.inr g)))))) H ∧ ∀ j f, N j = some f → ∃ a, g j = some a ∧ mk_D D cI am a 12 f H ∧ q < a ∧ a < B
section MKN
variable {cG : ClassId} {q B : Nat} {N : Nat → Option (Nat → Int32)}
theorem mk_N.lt (h : mk_N D cI cG am q B N H) : q < H.size := by
  obtain ⟨-, -, g, h1, -⟩ := h
  exact h1.lt
theorem mk_N.nA (h : mk_N D cI cG am q B N H) : ¬ mk_A am H.size q := by
  rintro (⟨k, hk, e⟩ | h1)
  · exact h.1 k hk e
  · exact absurd h.lt (Nat.not_lt.mpr h1)
theorem mk_N.kept (h : mk_N D cI cG am q B N H) (hk : ∀ z : Nat, z < H.size → ¬ mk_A am H.size z → H1[z]? = H[z]?) : mk_N D cI cG am q B N H1 := by
  have h0 := hk q h.lt h.nA
  obtain ⟨n, b, g, h1, h2⟩ := h
  refine ⟨n, b, g, h1.kept h0, fun j f hj => ?_⟩
  obtain ⟨a, e1, e2, e3⟩ := h2 j f hj
  exact ⟨a, e1, e2.kept hk, e3⟩
theorem mk_N.keptAll (h : mk_N D cI cG am q B N H) (hk : ∀ z : Nat, z < H.size → H1[z]? = H[z]?) : mk_N D cI cG am q B N H1 := h.kept (fun z hz _ => hk z hz)
theorem mk_N.oqS (h : mk_N D cI cG am q B N H) {k : Nat} (hk : k ∈ 38 :: mk_ars) (oq : ∀ z, z ≠ am k → H1[z]? = H[z]?) : mk_N D cI cG am q B N H1 := by
  obtain ⟨n, b, g, h1, h2⟩ := h
  refine ⟨n, b, g, h1.kept (oq q (n k hk)), fun j f hj => ?_⟩
  obtain ⟨a, e1, e2, e3⟩ := h2 j f hj
  exact ⟨a, e1, e2.oqS hk oq, e3⟩
/-- a write to a cell that came later -/
theorem mk_N.oqB (h : mk_N D cI cG am q B N H) {a : Nat} (hB : B ≤ a ∨ a < q) (oq : ∀ z, z ≠ a → H1[z]? = H[z]?) : mk_N D cI cG am q B N H1 := by
  obtain ⟨n, b, g, h1, h2⟩ := h
  refine ⟨n, b, g, h1.kept (oq q (by omega)), fun j f hj => ?_⟩
  obtain ⟨a, e1, e2, e3, e4⟩ := h2 j f hj
  exact ⟨a, e1, e2.oq oq (by omega), e3, e4⟩
theorem mk_N.S {H0 : Heap} {locs : List Loc} (h : mk_N D cI cG am q B N H0) (hS : va_S (mk_A am H0.size) H0 H locs) : mk_N D cI cG am q B N H := h.kept (fun z h1 h2 => hS.2.1 z h1 h2)
theorem mk_N.reB (h : mk_N D cI cG am q B N H) {b : Nat} (hb : b = H.size) : mk_N D cI cG am q b N H := by
  subst hb
  have hl := h.lt
  obtain ⟨n, -, g, h1, h2⟩ := h
  refine ⟨n, hl, g, h1, fun j f hj => ?_⟩
  obtain ⟨a, e1, e2, e3, -⟩ := h2 j f hj
  exact ⟨a, e1, e2, e3, e2.1.lt⟩
end MKN
end MKW
theorem mk_objW {D : va_G} {cI cZ : ClassId} {am : Nat → Nat} {μ : gk_C} {H : Heap} (h : mk_W D cI cZ am μ H) : va_at D vwCl (am 38, .inr (9, mk_o am μ.2)) H := h.2.1
theorem mk_arrW {D : va_G} {cI cZ : ClassId} {am : Nat → Nat} {μ : gk_C} {H : Heap} (h : mk_W D cI cZ am μ H) {k : Nat} (hk : k ∈ mk_ars) : va_at D vwCl (am k, .inl (mk_ty cI cZ k, (mk_ml k, .inl (μ.1 k)))) H := h.2.2 k hk
def mk_Pc (Wd : gk_C → Heap → Prop) (D : va_G) (cI cZ cG cL : ClassId) (av : List Value) (sz : Nat) (σ : gk_C) (X : Heap → Prop) : Array Value → State → Prop := va_Pc av (fun U => U.heap.size = sz ∧ Wd σ U.heap ∧ gk_K D cI cZ cG cL U ∧ X U.heap)
theorem mk_blind {Wd : gk_C → Heap → Prop} {D : va_G} {cI cZ cG cL : ClassId} {av : List Value} {sz : Nat} {σ : gk_C} {X : Heap → Prop} : FrameBlind (mk_Pc Wd D cI cZ cG cL av sz σ X) := fun _ _ _ _ q => ⟨q.1, q.2.1, q.2.2.1, gk_K.blind q.2.2.2.1, q.2.2.2.2⟩
abbrev mk_B (Wd : gk_C → Heap → Prop) : gk_C → State → Prop := fun u t => Wd u t.heap
theorem ac_int : Cond.arrayClass .int ∈ gk_BG := by decide +kernel
def mk_st (σ : gk_C) (k : Nat) (i x : Int32) : gk_C := gk_r σ k (upd (σ.1 k) i.toNatClampNeg x)
theorem mk_stW {Wd : gk_C → Heap → Prop} {σ σ' : gk_C} {k : Nat} {i x : Int32} {H : Heap} (e : σ' = mk_st σ k i x) (h : Wd (gk_r σ k (upd (σ.1 k) i.toNatClampNeg x)) H) : Wd σ' H := by rw [e]; exact h
section MKL
variable {p : Program} {l : Launch} {e : Env} {R : Room} {s : State} {m : MethodId} {args : Array Value} {below : List Frame} {meth : Method} {c : Code} {H : Heap} {locs : List Loc} {cells slots : Nat} {Q : State → Prop}
variable {D : va_G} {cI cZ cG cL : ClassId} {am : Nat → Nat} {σ : gk_C} {cc : ByteArray} {pc nL mc ms : Nat} {ls : Array Slot} {rest st0 : List Value} {Wd : gk_C → Heap → Prop} {X : Heap → Prop}
variable {y : MethodName} {ws : List Cond} {rm : Room} {own C : String} {index n maxL : Nat} {bytes : ByteArray} {ret : Option FieldType} {Ts : List Cond} {b : Addr} {As : List Value}
theorem mk_callVi {Qp : Int32 → gk_C → Prop} (C0 : CallFix p m c cc nL s args Ts own) (hM : Met l y ws rm (mk_Pc Wd D cI cZ cG cL (.ref b :: As) H.size σ X) (va_Qi Qp (mk_B Wd) (mk_A am H.size)) mc ms (mk_A am H.size)) (cw : CallW R s args own C index y bytes maxL ret ws rm mc ms n)
    (hrecv : ∃ cell : Cell, H[b]? = some cell ∧ cell.vm.isStatics = false ∧ s.vm.findClass C = some cell.cls) (hW : Wd σ H) (hK : gk_K D cI cZ cG cL s) (hX : X H) (hS : va_S (mk_A am s.heap.size) s.heap H locs) (hn : As.length = n) (hsz : ls.size = nL) (hst : st0 = As.reverse ++ .ref b :: rest)
    (hrm : 2 * (F0 m pc ls st0).monitorRoom + (rest.map fun v => v.category).sum ≤ 8) (hdg : decode cc pc = .ok (.invokevirtual index, 3)) (hf : cells + mc ≤ R.cells ∧ slots + ms ≤ R.slots)
    (kk : ∀ (r : Int32) (u : gk_C) (H1 : Heap) (locs1 : List Loc), Qp r u → Wd u H1 → H.size ≤ H1.size → (∀ q : Nat, q < H.size → ¬ mk_A am H.size q → H1[q]? = H[q]?) → va_S (mk_A am s.heap.size) s.heap H1 locs1 → W p l e R s m args below meth c H1 locs1 (cells + mc) (slots + ms) Q (F0 m (pc + 3) ls (.int r :: rest))) : W p l e R s m args below meth c H locs cells slots Q (F0 m pc ls st0) :=
  va_calli (va_runV C0 hM cw ⟨mk_blind, hrecv, fun U hU hW' => ⟨rfl, by rw [hU], by rw [hU]; exact hW, hK.warm hW', by rw [hU]; exact hX⟩⟩ rfl hn hsz hst hrm hdg hf) hS (fun q _ h => mk_A.up hS.1 q h) (mk_A.up hS.1) (fun r u t H1 locs1 ht _ hw hB hz hk hS1 => kk r u H1 locs1 hw (by subst ht; exact hB) hz hk hS1)
theorem mk_callRi {Qr : Int32 → Prop} (C0 : CallFix p m c cc nL s args Ts own) (hM : Met l y ws rm (mk_Pc Wd D cI cZ cG cL (.ref b :: As) H.size σ X) (va_Qi (fun r u => u = σ ∧ Qr r) (mk_B Wd) (mk_A am H.size)) mc ms (mk_A am H.size)) (cw : CallW R s args own C index y bytes maxL ret ws rm mc ms n)
    (hrecv : ∃ cell : Cell, H[b]? = some cell ∧ cell.vm.isStatics = false ∧ s.vm.findClass C = some cell.cls) (hW : Wd σ H) (hK : gk_K D cI cZ cG cL s) (hX : X H) (hS : va_S (mk_A am s.heap.size) s.heap H locs) (hn : As.length = n) (hsz : ls.size = nL) (hst : st0 = As.reverse ++ .ref b :: rest)
    (hrm : 2 * (F0 m pc ls st0).monitorRoom + (rest.map fun v => v.category).sum ≤ 8) (hdg : decode cc pc = .ok (.invokevirtual index, 3)) (hf : cells + mc ≤ R.cells ∧ slots + ms ≤ R.slots)
    (kk : ∀ (r : Int32) (H1 : Heap) (locs1 : List Loc), Qr r → Wd σ H1 → H.size ≤ H1.size → (∀ q : Nat, q < H.size → ¬ mk_A am H.size q → H1[q]? = H[q]?) → va_S (mk_A am s.heap.size) s.heap H1 locs1 → W p l e R s m args below meth c H1 locs1 (cells + mc) (slots + ms) Q (F0 m (pc + 3) ls (.int r :: rest))) : W p l e R s m args below meth c H locs cells slots Q (F0 m pc ls st0) :=
  mk_callVi C0 hM cw hrecv hW hK hX hS hn hsz hst hrm hdg hf (fun r u H1 locs1 hq hW1 hz hk hS1 => kk r H1 locs1 hq.2 (by rw [← hq.1]; exact hW1) hz hk hS1)
theorem mk_callVl {Qp : Int64 → gk_C → Prop} (C0 : CallFix p m c cc nL s args Ts own) (hM : Met l y ws rm (mk_Pc Wd D cI cZ cG cL (.ref b :: As) H.size σ X) (va_Ql Qp (mk_B Wd) (mk_A am H.size)) mc ms (mk_A am H.size)) (cw : CallW R s args own C index y bytes maxL ret ws rm mc ms n)
    (hrecv : ∃ cell : Cell, H[b]? = some cell ∧ cell.vm.isStatics = false ∧ s.vm.findClass C = some cell.cls) (hW : Wd σ H) (hK : gk_K D cI cZ cG cL s) (hX : X H) (hS : va_S (mk_A am s.heap.size) s.heap H locs) (hn : As.length = n) (hsz : ls.size = nL) (hst : st0 = As.reverse ++ .ref b :: rest)
    (hrm : 2 * (F0 m pc ls st0).monitorRoom + (rest.map fun v => v.category).sum ≤ 8) (hdg : decode cc pc = .ok (.invokevirtual index, 3)) (hf : cells + mc ≤ R.cells ∧ slots + ms ≤ R.slots)
    (kk : ∀ (r : Int64) (u : gk_C) (H1 : Heap) (locs1 : List Loc), Qp r u → Wd u H1 → H.size ≤ H1.size → (∀ q : Nat, q < H.size → ¬ mk_A am H.size q → H1[q]? = H[q]?) → va_S (mk_A am s.heap.size) s.heap H1 locs1 → W p l e R s m args below meth c H1 locs1 (cells + mc) (slots + ms) Q (F0 m (pc + 3) ls (.long r :: rest))) : W p l e R s m args below meth c H locs cells slots Q (F0 m pc ls st0) :=
  va_calll (va_runV C0 hM cw ⟨mk_blind, hrecv, fun U hU hW' => ⟨rfl, by rw [hU], by rw [hU]; exact hW, hK.warm hW', by rw [hU]; exact hX⟩⟩ rfl hn hsz hst hrm hdg hf) hS (fun q _ h => mk_A.up hS.1 q h) (mk_A.up hS.1) (fun r u t H1 locs1 ht _ hw hB hz hk hS1 => kk r u H1 locs1 hw (by subst ht; exact hB) hz hk hS1)
theorem mk_callRl {Qr : Int64 → Prop} (C0 : CallFix p m c cc nL s args Ts own) (hM : Met l y ws rm (mk_Pc Wd D cI cZ cG cL (.ref b :: As) H.size σ X) (va_Ql (fun r u => u = σ ∧ Qr r) (mk_B Wd) (mk_A am H.size)) mc ms (mk_A am H.size)) (cw : CallW R s args own C index y bytes maxL ret ws rm mc ms n)
    (hrecv : ∃ cell : Cell, H[b]? = some cell ∧ cell.vm.isStatics = false ∧ s.vm.findClass C = some cell.cls) (hW : Wd σ H) (hK : gk_K D cI cZ cG cL s) (hX : X H) (hS : va_S (mk_A am s.heap.size) s.heap H locs) (hn : As.length = n) (hsz : ls.size = nL) (hst : st0 = As.reverse ++ .ref b :: rest)
    (hrm : 2 * (F0 m pc ls st0).monitorRoom + (rest.map fun v => v.category).sum ≤ 8) (hdg : decode cc pc = .ok (.invokevirtual index, 3)) (hf : cells + mc ≤ R.cells ∧ slots + ms ≤ R.slots)
    (kk : ∀ (r : Int64) (H1 : Heap) (locs1 : List Loc), Qr r → Wd σ H1 → H.size ≤ H1.size → (∀ q : Nat, q < H.size → ¬ mk_A am H.size q → H1[q]? = H[q]?) → va_S (mk_A am s.heap.size) s.heap H1 locs1 → W p l e R s m args below meth c H1 locs1 (cells + mc) (slots + ms) Q (F0 m (pc + 3) ls (.long r :: rest))) : W p l e R s m args below meth c H locs cells slots Q (F0 m pc ls st0) :=
  mk_callVl C0 hM cw hrecv hW hK hX hS hn hsz hst hrm hdg hf (fun r u H1 locs1 hq hW1 hz hk hS1 => kk r H1 locs1 hq.2 (by rw [← hq.1]; exact hW1) hz hk hS1)
theorem mk_callVd {Qp : UInt64 → gk_C → Prop} (C0 : CallFix p m c cc nL s args Ts own) (hM : Met l y ws rm (mk_Pc Wd D cI cZ cG cL (.ref b :: As) H.size σ X) (va_Qd Qp (mk_B Wd) (mk_A am H.size)) mc ms (mk_A am H.size)) (cw : CallW R s args own C index y bytes maxL ret ws rm mc ms n)
    (hrecv : ∃ cell : Cell, H[b]? = some cell ∧ cell.vm.isStatics = false ∧ s.vm.findClass C = some cell.cls) (hW : Wd σ H) (hK : gk_K D cI cZ cG cL s) (hX : X H) (hS : va_S (mk_A am s.heap.size) s.heap H locs) (hn : As.length = n) (hsz : ls.size = nL) (hst : st0 = As.reverse ++ .ref b :: rest)
    (hrm : 2 * (F0 m pc ls st0).monitorRoom + (rest.map fun v => v.category).sum ≤ 8) (hdg : decode cc pc = .ok (.invokevirtual index, 3)) (hf : cells + mc ≤ R.cells ∧ slots + ms ≤ R.slots)
    (kk : ∀ (r : UInt64) (u : gk_C) (H1 : Heap) (locs1 : List Loc), Qp r u → Wd u H1 → H.size ≤ H1.size → (∀ q : Nat, q < H.size → ¬ mk_A am H.size q → H1[q]? = H[q]?) → va_S (mk_A am s.heap.size) s.heap H1 locs1 → W p l e R s m args below meth c H1 locs1 (cells + mc) (slots + ms) Q (F0 m (pc + 3) ls (.double r :: rest))) : W p l e R s m args below meth c H locs cells slots Q (F0 m pc ls st0) :=
  va_calld (va_runV C0 hM cw ⟨mk_blind, hrecv, fun U hU hW' => ⟨rfl, by rw [hU], by rw [hU]; exact hW, hK.warm hW', by rw [hU]; exact hX⟩⟩ rfl hn hsz hst hrm hdg hf) hS (fun q _ h => mk_A.up hS.1 q h) (mk_A.up hS.1) (fun r u t H1 locs1 ht _ hw hB hz hk hS1 => kk r u H1 locs1 hw (by subst ht; exact hB) hz hk hS1)
theorem mk_callRd {Qr : UInt64 → Prop} (C0 : CallFix p m c cc nL s args Ts own) (hM : Met l y ws rm (mk_Pc Wd D cI cZ cG cL (.ref b :: As) H.size σ X) (va_Qd (fun r u => u = σ ∧ Qr r) (mk_B Wd) (mk_A am H.size)) mc ms (mk_A am H.size)) (cw : CallW R s args own C index y bytes maxL ret ws rm mc ms n)
    (hrecv : ∃ cell : Cell, H[b]? = some cell ∧ cell.vm.isStatics = false ∧ s.vm.findClass C = some cell.cls) (hW : Wd σ H) (hK : gk_K D cI cZ cG cL s) (hX : X H) (hS : va_S (mk_A am s.heap.size) s.heap H locs) (hn : As.length = n) (hsz : ls.size = nL) (hst : st0 = As.reverse ++ .ref b :: rest)
    (hrm : 2 * (F0 m pc ls st0).monitorRoom + (rest.map fun v => v.category).sum ≤ 8) (hdg : decode cc pc = .ok (.invokevirtual index, 3)) (hf : cells + mc ≤ R.cells ∧ slots + ms ≤ R.slots)
    (kk : ∀ (r : UInt64) (H1 : Heap) (locs1 : List Loc), Qr r → Wd σ H1 → H.size ≤ H1.size → (∀ q : Nat, q < H.size → ¬ mk_A am H.size q → H1[q]? = H[q]?) → va_S (mk_A am s.heap.size) s.heap H1 locs1 → W p l e R s m args below meth c H1 locs1 (cells + mc) (slots + ms) Q (F0 m (pc + 3) ls (.double r :: rest))) : W p l e R s m args below meth c H locs cells slots Q (F0 m pc ls st0) :=
  mk_callVd C0 hM cw hrecv hW hK hX hS hn hsz hst hrm hdg hf (fun r u H1 locs1 hq hW1 hz hk hS1 => kk r H1 locs1 hq.2 (by rw [← hq.1]; exact hW1) hz hk hS1)
theorem mk_callVv {Qp : gk_C → Prop} (C0 : CallFix p m c cc nL s args Ts own) (hM : Met l y ws rm (mk_Pc Wd D cI cZ cG cL (.ref b :: As) H.size σ X) (va_Qv Qp (mk_B Wd) (mk_A am H.size)) mc ms (mk_A am H.size)) (cw : CallW R s args own C index y bytes maxL ret ws rm mc ms n)
    (hrecv : ∃ cell : Cell, H[b]? = some cell ∧ cell.vm.isStatics = false ∧ s.vm.findClass C = some cell.cls) (hW : Wd σ H) (hK : gk_K D cI cZ cG cL s) (hX : X H) (hS : va_S (mk_A am s.heap.size) s.heap H locs) (hn : As.length = n) (hsz : ls.size = nL) (hst : st0 = As.reverse ++ .ref b :: rest)
    (hrm : 2 * (F0 m pc ls st0).monitorRoom + (rest.map fun v => v.category).sum ≤ 8) (hdg : decode cc pc = .ok (.invokevirtual index, 3)) (hf : cells + mc ≤ R.cells ∧ slots + ms ≤ R.slots)
    (kk : ∀ (u : gk_C) (H1 : Heap) (locs1 : List Loc), Qp u → Wd u H1 → H.size ≤ H1.size → (∀ q : Nat, q < H.size → ¬ mk_A am H.size q → H1[q]? = H[q]?) → va_S (mk_A am s.heap.size) s.heap H1 locs1 → W p l e R s m args below meth c H1 locs1 (cells + mc) (slots + ms) Q (F0 m (pc + 3) ls (rest))) : W p l e R s m args below meth c H locs cells slots Q (F0 m pc ls st0) :=
  va_callv (va_runV C0 hM cw ⟨mk_blind, hrecv, fun U hU hW' => ⟨rfl, by rw [hU], by rw [hU]; exact hW, hK.warm hW', by rw [hU]; exact hX⟩⟩ rfl hn hsz hst hrm hdg hf) hS (fun q _ h => mk_A.up hS.1 q h) (mk_A.up hS.1) (fun u t H1 locs1 ht _ hw hB hz hk hS1 => kk u H1 locs1 hw (by subst ht; exact hB) hz hk hS1)
theorem mk_callVa {Qr : (Nat → Int32) → Prop} (C0 : CallFix p m c cc nL s args Ts own) (hM : Met l y ws rm (mk_Pc Wd D cI cZ cG cL (.ref b :: As) H.size σ X) (va_Qr (fun (u : gk_C × (Nat → Int32)) => u.1 = σ ∧ Qr u.2) (fun u a t => Wd u.1 t.heap ∧ mk_D D cI am a 12 u.2 t.heap ∧ H.size ≤ a) (mk_A am H.size)) mc ms (mk_A am H.size)) (cw : CallW R s args own C index y bytes maxL ret ws rm mc ms n)
    (hrecv : ∃ cell : Cell, H[b]? = some cell ∧ cell.vm.isStatics = false ∧ s.vm.findClass C = some cell.cls) (hW : Wd σ H) (hK : gk_K D cI cZ cG cL s) (hX : X H) (hS : va_S (mk_A am s.heap.size) s.heap H locs) (hn : As.length = n) (hsz : ls.size = nL) (hst : st0 = As.reverse ++ .ref b :: rest)
    (hrm : 2 * (F0 m pc ls st0).monitorRoom + (rest.map fun v => v.category).sum ≤ 8) (hdg : decode cc pc = .ok (.invokevirtual index, 3)) (hf : cells + mc ≤ R.cells ∧ slots + ms ≤ R.slots)
    (kk : ∀ (f : Nat → Int32) (a : Nat) (H1 : Heap) (locs1 : List Loc), Qr f → Wd σ H1 → mk_D D cI am a 12 f H1 → H.size ≤ a → s.heap.size ≤ a → H.size ≤ H1.size → (∀ q : Nat, q < H.size → ¬ mk_A am H.size q → H1[q]? = H[q]?) → va_S (mk_A am s.heap.size) s.heap H1 locs1 → W p l e R s m args below meth c H1 locs1 (cells + mc) (slots + ms) Q (F0 m (pc + 3) ls (.ref a :: rest))) : W p l e R s m args below meth c H locs cells slots Q (F0 m pc ls st0) :=
  va_callr (va_runV C0 hM cw ⟨mk_blind, hrecv, fun U hU hW' => ⟨rfl, by rw [hU], by rw [hU]; exact hW, hK.warm hW', by rw [hU]; exact hX⟩⟩ rfl hn hsz hst hrm hdg hf) hS (fun q _ h => mk_A.up hS.1 q h) (mk_A.up hS.1) (fun u a t H1 locs1 ht _ hw hB hz hk hS1 => kk u.2 a H1 locs1 hw.2 (by subst ht; rw [← hw.1]; exact hB.1) (by subst ht; exact hB.2.1) hB.2.2 (Nat.le_trans hS.1 hB.2.2) hz hk hS1)
theorem mk_callVt {Qr : Nat → (Nat → Int32) → Prop} (C0 : CallFix p m c cc nL s args Ts own) (hM : Met l y ws rm (mk_Pc Wd D cI cZ cG cL (.ref b :: As) H.size σ X) (va_Qr (fun (u : gk_C × Nat × (Nat → Int32)) => u.1 = σ ∧ Qr u.2.1 u.2.2) (fun u a t => Wd u.1 t.heap ∧ mk_D D cI am a u.2.1 u.2.2 t.heap ∧ H.size ≤ a) (mk_A am H.size)) mc ms (mk_A am H.size)) (cw : CallW R s args own C index y bytes maxL ret ws rm mc ms n)
    (hrecv : ∃ cell : Cell, H[b]? = some cell ∧ cell.vm.isStatics = false ∧ s.vm.findClass C = some cell.cls) (hW : Wd σ H) (hK : gk_K D cI cZ cG cL s) (hX : X H) (hS : va_S (mk_A am s.heap.size) s.heap H locs) (hn : As.length = n) (hsz : ls.size = nL) (hst : st0 = As.reverse ++ .ref b :: rest)
    (hrm : 2 * (F0 m pc ls st0).monitorRoom + (rest.map fun v => v.category).sum ≤ 8) (hdg : decode cc pc = .ok (.invokevirtual index, 3)) (hf : cells + mc ≤ R.cells ∧ slots + ms ≤ R.slots)
    (kk : ∀ (k : Nat) (f : Nat → Int32) (a : Nat) (H1 : Heap) (locs1 : List Loc), Qr k f → Wd σ H1 → mk_D D cI am a k f H1 → H.size ≤ a → s.heap.size ≤ a → H.size ≤ H1.size → (∀ q : Nat, q < H.size → ¬ mk_A am H.size q → H1[q]? = H[q]?) → va_S (mk_A am s.heap.size) s.heap H1 locs1 → W p l e R s m args below meth c H1 locs1 (cells + mc) (slots + ms) Q (F0 m (pc + 3) ls (.ref a :: rest))) : W p l e R s m args below meth c H locs cells slots Q (F0 m pc ls st0) :=
  va_callr (va_runV C0 hM cw ⟨mk_blind, hrecv, fun U hU hW' => ⟨rfl, by rw [hU], by rw [hU]; exact hW, hK.warm hW', by rw [hU]; exact hX⟩⟩ rfl hn hsz hst hrm hdg hf) hS (fun q _ h => mk_A.up hS.1 q h) (mk_A.up hS.1) (fun u a t H1 locs1 ht _ hw hB hz hk hS1 => kk u.2.1 u.2.2 a H1 locs1 hw.2 (by subst ht; rw [← hw.1]; exact hB.1) (by subst ht; exact hB.2.1) hB.2.2 (Nat.le_trans hS.1 hB.2.2) hz hk hS1)
theorem mk_callVb {Qr : (Nat → Option (Nat → Int32)) → Prop} (C0 : CallFix p m c cc nL s args Ts own) (hM : Met l y ws rm (mk_Pc Wd D cI cZ cG cL (.ref b :: As) H.size σ X) (va_Qr (fun (u : gk_C × (Nat → Option (Nat → Int32))) => u.1 = σ ∧ Qr u.2) (fun u a t => Wd u.1 t.heap ∧ mk_N D cI cG am a t.heap.size u.2 t.heap ∧ H.size ≤ a) (mk_A am H.size)) mc ms (mk_A am H.size)) (cw : CallW R s args own C index y bytes maxL ret ws rm mc ms n)
    (hrecv : ∃ cell : Cell, H[b]? = some cell ∧ cell.vm.isStatics = false ∧ s.vm.findClass C = some cell.cls) (hW : Wd σ H) (hK : gk_K D cI cZ cG cL s) (hX : X H) (hS : va_S (mk_A am s.heap.size) s.heap H locs) (hn : As.length = n) (hsz : ls.size = nL) (hst : st0 = As.reverse ++ .ref b :: rest)
    (hrm : 2 * (F0 m pc ls st0).monitorRoom + (rest.map fun v => v.category).sum ≤ 8) (hdg : decode cc pc = .ok (.invokevirtual index, 3)) (hf : cells + mc ≤ R.cells ∧ slots + ms ≤ R.slots)
    (kk : ∀ (N : Nat → Option (Nat → Int32)) (a : Nat) (H1 : Heap) (locs1 : List Loc), Qr N → Wd σ H1 → mk_N D cI cG am a H1.size N H1 → H.size ≤ a → s.heap.size ≤ a → H.size ≤ H1.size → (∀ q : Nat, q < H.size → ¬ mk_A am H.size q → H1[q]? = H[q]?) → va_S (mk_A am s.heap.size) s.heap H1 locs1 → W p l e R s m args below meth c H1 locs1 (cells + mc) (slots + ms) Q (F0 m (pc + 3) ls (.ref a :: rest))) : W p l e R s m args below meth c H locs cells slots Q (F0 m pc ls st0) :=
  va_callr (va_runV C0 hM cw ⟨mk_blind, hrecv, fun U hU hW' => ⟨rfl, by rw [hU], by rw [hU]; exact hW, hK.warm hW', by rw [hU]; exact hX⟩⟩ rfl hn hsz hst hrm hdg hf) hS (fun q _ h => mk_A.up hS.1 q h) (mk_A.up hS.1) (fun u a t H1 locs1 ht _ hw hB hz hk hS1 => kk u.2 a H1 locs1 hw.2 (by subst ht; rw [← hw.1]; exact hB.1) (by subst ht; exact hB.2.1) hB.2.2 (Nat.le_trans hS.1 hB.2.2) hz hk hS1)
theorem mk_reti {Qp : Int32 → gk_C → Prop} {v : Int32} {u : gk_C} (C0 : gk_F p s m args meth c cc nL (some .int) own) (hq : Qp v u) (hW : Wd u H) (hS : va_S (mk_A am s.heap.size) s.heap H locs) (hdg : decode cc pc = .ok (.ireturn, 1)) :
    W p l e R s m args below meth c H locs cells slots (MQ below (va_Qi Qp (mk_B Wd) (mk_A am s.heap.size)) args s cells slots (mk_A am s.heap.size)) (F0 m pc ls [.int v]) :=
  W.iret (v := v) C0.1 C0.2.1 C0.2.2.2.2.2.1 (fun t ht _ => ⟨⟨v, u, rfl, hq, by show Wd u t.heap; rw [ht]; exact hW⟩, hS.F ht⟩) hS.2.2 hdg (hlocks := C0.2.2.2.2.2.2)
theorem mk_retl {Qp : Int64 → gk_C → Prop} {v : Int64} {u : gk_C} (C0 : gk_F p s m args meth c cc nL (some .long) own) (hq : Qp v u) (hW : Wd u H) (hS : va_S (mk_A am s.heap.size) s.heap H locs) (hdg : decode cc pc = .ok (.lreturn, 1)) :
    W p l e R s m args below meth c H locs cells slots (MQ below (va_Ql Qp (mk_B Wd) (mk_A am s.heap.size)) args s cells slots (mk_A am s.heap.size)) (F0 m pc ls [.long v]) :=
  W.lret (v := v) C0.1 C0.2.1 C0.2.2.2.2.2.1 (fun t ht _ => ⟨⟨v, u, rfl, hq, by show Wd u t.heap; rw [ht]; exact hW⟩, hS.F ht⟩) hS.2.2 hdg (hlocks := C0.2.2.2.2.2.2)
theorem mk_retd {Qp : UInt64 → gk_C → Prop} {v : UInt64} {u : gk_C} (C0 : gk_F p s m args meth c cc nL (some .double) own) (hq : Qp v u) (hW : Wd u H) (hS : va_S (mk_A am s.heap.size) s.heap H locs) (hdg : decode cc pc = .ok (.dreturn, 1)) :
    W p l e R s m args below meth c H locs cells slots (MQ below (va_Qd Qp (mk_B Wd) (mk_A am s.heap.size)) args s cells slots (mk_A am s.heap.size)) (F0 m pc ls [.double v]) :=
  W.dret (v := v) C0.1 C0.2.1 C0.2.2.2.2.2.1 (fun t ht _ => ⟨⟨v, u, rfl, hq, by show Wd u t.heap; rw [ht]; exact hW⟩, hS.F ht⟩) hS.2.2 hdg (hlocks := C0.2.2.2.2.2.2)
theorem mk_retz {Qp : Int32 → gk_C → Prop} {v : Int32} {u : gk_C} (C0 : gk_F p s m args meth c cc nL (some .boolean) own) (hn : narrow .boolean (.int v) = .int v) (hq : Qp v u) (hW : Wd u H) (hS : va_S (mk_A am s.heap.size) s.heap H locs) (hdg : decode cc pc = .ok (.ireturn, 1)) :
    W p l e R s m args below meth c H locs cells slots (MQ below (va_Qi Qp (mk_B Wd) (mk_A am s.heap.size)) args s cells slots (mk_A am s.heap.size)) (F0 m pc ls [.int v]) :=
  W.zret (v := v) C0.1 C0.2.1 C0.2.2.2.2.2.1 hn (fun t ht _ => ⟨⟨v, u, rfl, hq, by show Wd u t.heap; rw [ht]; exact hW⟩, hS.F ht⟩) hS.2.2 hdg (hlocks := C0.2.2.2.2.2.2)
theorem mk_retv {Qp : gk_C → Prop} {u : gk_C} (C0 : gk_F p s m args meth c cc nL none own) (hq : Qp u) (hW : Wd u H) (hS : va_S (mk_A am s.heap.size) s.heap H locs) (hdg : decode cc pc = .ok (.return_, 1)) :
    W p l e R s m args below meth c H locs cells slots (MQ below (va_Qv Qp (mk_B Wd) (mk_A am s.heap.size)) args s cells slots (mk_A am s.heap.size)) (F0 m pc ls []) :=
  W.vret C0.1 C0.2.1 C0.2.2.2.2.2.1 (fun t ht _ => ⟨⟨u, rfl, hq, by show Wd u t.heap; rw [ht]; exact hW⟩, hS.F ht⟩) hS.2.2 hdg (hlocks := C0.2.2.2.2.2.2)
theorem mk_reta {S : Type} {post : S → Prop} {B : S → Nat → State → Prop} {rt : FieldType} {a : Nat} (u : S) (C0 : gk_F p s m args meth c cc nL (some rt) own) (hrt : (∃ n, rt = .object n) ∨ ∃ t, rt = .array t) (hq : post u) (hB : ∀ t : State, t.heap = H → B u a t) (hS : va_S (mk_A am s.heap.size) s.heap H locs) (hdg : decode cc pc = .ok (.areturn, 1)) :
    W p l e R s m args below meth c H locs cells slots (MQ below (va_Qr post B (mk_A am s.heap.size)) args s cells slots (mk_A am s.heap.size)) (F0 m pc ls [.ref a]) :=
  W.aret (v := .ref a) C0.1 C0.2.1 C0.2.2.2.2.2.1 hrt (Or.inr ⟨a, rfl⟩) (fun t ht _ => ⟨⟨u, a, rfl, hq, hB t ht⟩, hS.F ht⟩) hS.2.2 hdg (hlocks := C0.2.2.2.2.2.2)
/-- a new int array, all 0 -/
theorem mk_newi {A : Nat → Prop} {H0 : Heap} (hexec : p.tables.exec = Jvm.exec) (hb : c.code = cc) (harr : (Cond.arrayClass .int).before args s = true) (hK : gk_K D cI cZ cG cL s) (hlt : ∀ k, k ∈ 38 :: mk_ars → am k < H.size) (hS : va_S A H0 H locs) {n : Int32} {N' : Nat} (hn : ¬ n < 0) (hN : n.toNatClampNeg = N') (hby : N' * 4 ≤ 536870912) (hf : cells + 1 ≤ R.cells ∧ slots + N' ≤ R.slots) (hdg : decode cc pc = .ok (.newarray .int, 2))
    (kk : ∀ (q : Nat) (H1 : Heap), mk_D D cI am q N' (fun _ => 0) H1 → q = H.size → H0.size ≤ q → (∀ z : Nat, z < H.size → H1[z]? = H[z]?) → va_S A H0 H1 locs → W p l e R s m args below meth c H1 locs (cells + 1) (slots + N') Q (F0 m (pc + 2) ls (.ref q :: rest))) : W p l e R s m args below meth c H locs cells slots Q (F0 m pc ls (.int n :: rest)) := by
  subst hN
  refine W.newa (atype := .int) hexec hb harr rfl hdg rfl hn hby hf.1 hf.2 fun cA kA comp f1 f2 f3 => ?_
  have hcA : cA = cI := by
    have h2 := (hK.1.2 0 (cI, .int) rfl).2
    have h3 : s.vm.findClass ("[" ++ FieldType.int.toString) = some cI := h2
    exact Option.some.inj (f1.symm.trans h3)
  subst hcA
  have e1 : (H.push ({ cls := cA, slots := Array.replicate n.toNatClampNeg (defaultValue (newarray.typeOf .int)), vm := .none } : Cell))[H.size]? = some (vp_cell cA (n.toNatClampNeg, .inl (fun _ => 0))) := by
    rw [Array.getElem?_push_size, vp_cell_i]
    congr 1
    exact arrV_new cA _ _
  have e2 : ∀ z : Nat, z < H.size → (H.push ({ cls := cA, slots := Array.replicate n.toNatClampNeg (defaultValue (newarray.typeOf .int)), vm := .none } : Cell))[z]? = H[z]? := fun z hz => by
    rw [Array.getElem?_push_lt hz, Array.getElem?_eq_getElem hz]
  refine kk H.size _ ⟨e1, fun k hk => Nat.ne_of_gt (hlt k hk)⟩ rfl hS.1 e2 ⟨Nat.le_trans hS.1 (by rw [Array.size_push]; omega), fun q h1 h2 => (e2 q (Nat.lt_of_lt_of_le h1 hS.1)).trans (hS.2.1 q h1 h2), hS.2.2⟩
/-- a row out of a row of rows -/
theorem mk_aald (hexec : p.tables.exec = Jvm.exec) (hb : c.code = cc) {tys : List (ClassId × FieldType)} (hK : va_K D vwCl tys s) (t0 : Nat) {q B : Nat} {N : Nat → Option (Nat → Int32)} (h : mk_N D cI cG am q B N H) (ht : tys[t0]? = some (cG, .array .int)) {i : Int32} (hin : vp_in i 12) {f : Nat → Int32} (hf : N i.toNatClampNeg = some f) (hdg : decode cc pc = .ok (.aaload, 1))
    (kk : ∀ a : Nat, mk_D D cI am a 12 f H → a ≠ q → a < B → W p l e R s m args below meth c H locs cells slots Q (F0 m (pc + 1) ls (.ref a :: rest))) : W p l e R s m args below meth c H locs cells slots Q (F0 m pc ls (.int i :: .ref q :: rest)) := by
  obtain ⟨-, -, g, h1, h2⟩ := h
  obtain ⟨a, e1, e2, e3, e4⟩ := h2 _ _ hf
  have hlt : i.toNatClampNeg < 12 := Nat.not_le.mp fun q => hin (Or.inr q)
  exact W.aald (v := .ref a) hexec hb h1 ((hK.2 t0 _ ht).1 12 (fun j => va_rf (g j))) rfl (fun q => by cases q) (by show ¬ (i < 0 ∨ (arrV _ _ _).slots.size ≤ _); rw [arrV_size]; exact hin) (by show (arrV _ _ _).slots[_]? = _; rw [arrV_read _ _ hlt, e1]; rfl) rfl rfl hdg (kk a e2 (Nat.ne_of_gt e3) e4)
/-- a store into a row of booleans -/
theorem gk_zast {A : Nat → Prop} {H0 : Heap} {tys : List (ClassId × FieldType)} {a : Nat} (hexec : p.tables.exec = Jvm.exec) (hb : c.code = cc) (hK : va_K D vwCl tys s) (hS : va_S A H0 H locs) (hAa : A a) (t0 : Nat) {cA : ClassId} {n : Nat} {f : Nat → Int32} (h : va_at D vwCl (a, .inl (cA, (n, .inl f))) H) (ht : tys[t0]? = some (cA, .boolean)) {i x : Int32} (hin : vp_in i n) (hdg : decode cc pc = .ok (.bastore, 1))
    (kk : ∀ (H1 : Heap) (locs1 : List Loc), va_at D vwCl (a, .inl (cA, (n, .inl (upd f i.toNatClampNeg (vp_nar .boolean x))))) H1 → H1.size = H.size → (∀ q, q ≠ a → H1[q]? = H[q]?) → va_S A H0 H1 locs1 → W p l e R s m args below meth c H1 locs1 cells slots Q (F0 m (pc + 1) ls rest)) : W p l e R s m args below meth c H locs cells slots Q (F0 m pc ls (.int x :: .int i :: .ref a :: rest)) := by
  refine W.zast hexec hb h ((hK.2 t0 _ ht).1 n (fun j => .int (f j))) (fun q => by cases q) (by show ¬ (i < 0 ∨ (arrV _ _ _).slots.size ≤ _); rw [arrV_size]; exact hin) rfl rfl hdg fun H1 e z oq => ?_
  refine kk H1 _ ?_ z oq (hS.put z oq hAa)
  show H1[a]? = some (vp_cell _ _)
  rw [e]
  rw [vp_cell_i, vp_cell_i, arrV_store]
  congr 2
  funext q
  by_cases hq : q = i.toNatClampNeg
  · subst hq
    simp [updV, upd, vp_nar]
    try rfl
  · simp [updV, upd, hq]
end MKL
/-! nears(int, int[]): what it asks and gives -/
def mk_NW (D : va_G) (cI : ClassId) (am : Nat → Nat) (σ : gk_C) (H : Heap) : Prop := va_at D vwCl (am 38, .inr (9, mk_o am σ.2)) H ∧ va_at D vwCl (am 8, .inl (cI, (12, .inl (σ.1 8)))) H
theorem mk_NW.oq {D : va_G} {cI : ClassId} {am : Nat → Nat} {σ : gk_C} {H H1 : Heap} {q : Nat} (h : mk_NW D cI am σ H) (hne : q ≠ am 38 ∧ q ≠ am 8) (oq : ∀ z, z ≠ q → H1[z]? = H[z]?) : mk_NW D cI am σ H1 := ⟨h.1.kept (oq _ hne.1.symm), h.2.kept (oq _ hne.2.symm)⟩
def mk_PN (D : va_G) (cI cZ cG cL : ClassId) (am : Nat → Nat) (a0 : Int32) (q : Nat) (f : Nat → Int32) (σ : gk_C) : Array Value → State → Prop := va_Pc [.ref (am 38), .int a0, .ref q] (fun U => mk_NW D cI am σ U.heap ∧ va_at D vwCl (q, .inl (cI, (12, .inl f))) U.heap ∧ gk_K D cI cZ cG cL U)
theorem mk_Nblind {D : va_G} {cI cZ cG cL : ClassId} {am : Nat → Nat} {a0 : Int32} {q : Nat} {f : Nat → Int32} {σ : gk_C} : FrameBlind (mk_PN D cI cZ cG cL am a0 q f σ) := fun _ _ _ _ z => ⟨z.1, z.2.1, z.2.2.1, gk_K.blind z.2.2.2⟩
def mk_QN (D : va_G) (cI : ClassId) (q : Nat) (Q : (Nat → Int32) → Prop) : Array Value → State → Outcome → State → Prop := va_Qr (fun f => Q f) (fun f a t => a = q ∧ va_at D vwCl (q, .inl (cI, (12, .inl f))) t.heap) (fun z => z = q)
theorem mk_W.NW {D : va_G} {cI cZ : ClassId} {am : Nat → Nat} {σ : gk_C} {H : Heap} (h : mk_W D cI cZ am σ H) : mk_NW D cI am σ H := ⟨h.2.1, h.2.2 8 (by decide)⟩
theorem mk_V.NW {D : va_G} {cI cZ : ClassId} {am : Nat → Nat} {σ : gk_C} {H : Heap} (h : mk_V D cI cZ am σ H) : mk_NW D cI am σ H := ⟨mk_obj h, mk_arr h (k := 8) (by decide) (by decide) (by decide)⟩
theorem mk_W.setRk {D : va_G} {cI cZ : ClassId} {am : Nat → Nat} {μ : gk_C} {H H1 : Heap} (h : mk_W D cI cZ am μ H) {k : Nat} {f : Nat → Int32} (hk : k ∈ mk_ars) (h1 : va_at D vwCl (am k, .inl (mk_ty cI cZ k, (mk_ml k, .inl f))) H1) (oq : ∀ q : Nat, q < H.size → q ≠ am k → H1[q]? = H[q]?) : mk_W D cI cZ am (gk_r μ k f) H1 := by
  have ne : ∀ j, j ∈ 38 :: mk_ars → j ≠ k → H1[am j]? = H[am j]? := fun j hj hn => oq _ (h.lt hj) (fun e => hn (h.1 j k hj (List.mem_cons_of_mem _ hk) e))
  refine ⟨h.1, h.2.1.kept (ne 38 List.mem_cons_self (fun e => by subst e; exact absurd hk (by decide))), fun j hj => ?_⟩
  by_cases hjk : j = k
  · subst hjk
    show va_at D vwCl (am j, .inl (mk_ty cI cZ j, (mk_ml j, .inl (va_up μ.1 j f j)))) H1
    rw [show va_up μ.1 j f j = f by simp [va_up]]
    exact h1
  · show va_at D vwCl (am j, .inl (mk_ty cI cZ j, (mk_ml j, .inl (va_up μ.1 k f j)))) H1
    rw [va_up_ne _ _ hjk]
    exact (h.2.2 j hj).kept (ne j (List.mem_cons_of_mem _ hj) hjk)
theorem mk_V.keptK {D : va_G} {cI cZ : ClassId} {am : Nat → Nat} {μ : gk_C} {H H1 : Heap} (h : mk_V D cI cZ am μ H) {a : Nat} (ha : ∀ k, k ∈ 38 :: mk_ars → a ≠ am k) (hk : ∀ q : Nat, q < H.size → q ≠ a → H1[q]? = H[q]?) : mk_V D cI cZ am μ H1 := by
  obtain ⟨f, g, h⟩ := h
  exact ⟨f, g, h.kept (fun k hk9 => hk _ (h.lt hk9) (fun e => ha k hk9 e.symm))⟩
theorem mk_D.okk {D : va_G} {cI : ClassId} {am : Nat → Nat} {q n : Nat} {f : Nat → Int32} {H H1 : Heap} (h : mk_D D cI am q n f H) {a : Nat} (hk : ∀ z : Nat, z < H.size → z ≠ a → H1[z]? = H[z]?) (hne : q ≠ a) : mk_D D cI am q n f H1 := ⟨h.1.kept (hk q h.1.lt hne), h.2⟩
theorem mk_N.okk {D : va_G} {cI cG : ClassId} {am : Nat → Nat} {q B : Nat} {N : Nat → Option (Nat → Int32)} {H H1 : Heap} (h : mk_N D cI cG am q B N H) {a : Nat} (hk : ∀ z : Nat, z < H.size → z ≠ a → H1[z]? = H[z]?) (hB : B ≤ a) : mk_N D cI cG am q B N H1 := by
  have hl := h.lt
  obtain ⟨n, b, g, h1, h2⟩ := h
  refine ⟨n, b, g, h1.kept (hk q hl (by omega)), fun j f hj => ?_⟩
  obtain ⟨c, e1, e2, e3, e4⟩ := h2 j f hj
  exact ⟨c, e1, e2.okk hk (by omega), e3, e4⟩
section MKN2
variable {p : Program} {l : Launch} {e : Env} {R : Room} {s : State} {m : MethodId} {args : Array Value} {below : List Frame} {meth : Method} {c : Code} {H : Heap} {locs : List Loc} {cells slots : Nat} {Q : State → Prop}
variable {D : va_G} {cI cZ cG cL : ClassId} {am : Nat → Nat} {σ : gk_C} {cc : ByteArray} {pc nL : Nat} {ls : Array Slot} {rest st0 : List Value}
theorem mk_callN {A : Nat → Prop} {q : Nat} {a0 : Int32} {f0 : Nat → Int32} {Qr : (Nat → Int32) → Prop} {rm : Room} {Ts : List Cond} {own : String} {index maxL : Nat} {bytes : ByteArray} {ret : Option FieldType} (C0 : CallFix p m c cc nL s args Ts own) (hM : Met l yX9_nears_ wsX9_nears_ rm (mk_PN D cI cZ cG cL am a0 q f0 σ) (mk_QN D cI q Qr) 0 0 (fun z => z = q)) (cw : CallW R s args own RX9 index yX9_nears_ bytes maxL ret wsX9_nears_ rm 0 0 2)
    (hNW : mk_NW D cI am σ H) (hq : va_at D vwCl (q, .inl (cI, (12, .inl f0))) H) (hK : gk_K D cI cZ cG cL s) (hS : va_S A s.heap H locs) (hAq : A q) (hsz : ls.size = nL) (hrm : 2 * (F0 m pc ls (.ref q :: .int a0 :: .ref (am 38) :: rest)).monitorRoom + (rest.map fun v => v.category).sum ≤ 8) (hdg : decode cc pc = .ok (.invokevirtual index, 3)) (hf : cells ≤ R.cells ∧ slots ≤ R.slots)
    (kk : ∀ (f : Nat → Int32) (H1 : Heap) (locs1 : List Loc), Qr f → va_at D vwCl (q, .inl (cI, (12, .inl f))) H1 → (∀ z : Nat, z < H.size → z ≠ q → H1[z]? = H[z]?) → H.size ≤ H1.size → va_S A s.heap H1 locs1 → W p l e R s m args below meth c H1 locs1 cells slots Q (F0 m (pc + 3) ls (.ref q :: rest))) : W p l e R s m args below meth c H locs cells slots Q (F0 m pc ls (.ref q :: .int a0 :: .ref (am 38) :: rest)) :=
  va_callr (va_runV (As := [.int a0, .ref q]) (rest := rest) C0 hM cw ⟨mk_Nblind, gk_recv hK.1 hNW.1 rfl, fun U hU hW' => ⟨rfl, by rw [hU]; exact hNW, by rw [hU]; exact hq, hK.warm hW'⟩⟩ rfl rfl hsz rfl hrm hdg hf) hS (fun z _ h => by rw [h]; exact hAq) (fun z h => by rw [h]; exact hAq) (fun f a t H1 locs1 ht _ hw hB hz hk hS1 => by
    obtain ⟨rfl, hB⟩ := hB
    subst ht
    exact kk f _ locs1 hw hB hk hz hS1)
end MKN2
