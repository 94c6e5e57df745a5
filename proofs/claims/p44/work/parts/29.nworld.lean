/-! ===== the law's Gate: its cells beside the gate's ===== -/
abbrev nk_C : Type := gk_C × gk_C
def tk_ix : List Nat := [0, 6, 7, 8, 10, 11, 13, 14, 22, 23, 24, 25, 26, 27, 28, 29, 30, 31, 32, 33, 34, 35]
def tk_ar : List Nat := [7, 8, 13, 14]
def tk_l (k : Nat) : Nat := if k < 10 then 4 else 6
def tk_o (ad am : Nat → Nat) (b : Nat) (S : Nat → Int32) : List Value := [.ref (ad 0), .ref b, .int (S 2), .int (S 3), .int (S 4), .int (S 5), .ref (am 6), .ref (am 7), .ref (am 8), .int (S 9), .ref (am 10), .ref (am 11), .int (S 12), .ref (am 13), .ref (am 14), .ref (am 15), .ref (am 16), .int (S 17), .ref (am 18), .int (S 19), .ref (am 20), .ref (am 21)]
def tk_out (am : Nat → Nat) (n i0 : Nat) : Nat → Option Nat := fun i => if i < n then some (am (i0 + i)) else none
abbrev tk_g (cL : ClassId) (n : Nat) (g : Nat → Option Nat) : va_E := .inl (cL, (n, .inr (.inr (.inr (.inr g)))))
def tk_W (D : va_G) (cI cZ cL : ClassId) (ad am : Nat → Nat) (b : Nat) (τ : gk_C) (H : Heap) : Prop :=
  (∀ i j, i ∈ tk_ix → j ∈ tk_ix → am i = am j → i = j) ∧ va_at D vwCl (am 0, .inr (9, tk_o ad am b τ.2)) H ∧ (∀ k, k ∈ tk_ar → va_at D vwCl (am k, .inl (cI, (tk_l k, .inl (τ.1 k)))) H) ∧ (∀ k, 22 ≤ k → k < 36 → va_at D vwCl (am k, .inl (cZ, (5, .inl (τ.1 k)))) H) ∧
  va_at D vwCl (am 6, tk_g cL 4 (tk_out am 4 22)) H ∧ va_at D vwCl (am 10, tk_g cL 5 (tk_out am 5 26)) H ∧ va_at D vwCl (am 11, tk_g cL 5 (tk_out am 5 31)) H
def nk_W (D : va_G) (cI cZ cL : ClassId) (ad am : Nat → Nat) (b : Nat) (σ : nk_C) (H : Heap) : Prop := gk_W D cI ad σ.1 H ∧ tk_W D cI cZ cL ad am b σ.2 H ∧ ∀ i j, i ∈ tk_ix → j < 87 → am i ≠ ad j
def nk_A (ad am : Nat → Nat) (sz : Nat) : Nat → Prop := fun q => (∃ k, k < 87 ∧ q = ad k) ∨ (∃ k, k ∈ tk_ix ∧ q = am k) ∨ sz ≤ q
def nk_s (σ : nk_C) (i : Nat) (v : Int32) : nk_C := (σ.1, gk_s σ.2 i v)
def nk_r (σ : nk_C) (k : Nat) (f : Nat → Int32) : nk_C := (σ.1, gk_r σ.2 k f)
theorem tk_z_in {k : Nat} (h1 : 22 ≤ k) (h2 : k < 36) : k ∈ tk_ix := by
  unfold tk_ix
  simp only [List.mem_cons, List.not_mem_nil, or_false]
  omega
theorem tk_ix_or {k : Nat} (h : k ∈ tk_ix) : k = 0 ∨ k = 6 ∨ k = 10 ∨ k = 11 ∨ k ∈ tk_ar ∨ (22 ≤ k ∧ k < 36) := by
  unfold tk_ix at h
  unfold tk_ar
  simp only [List.mem_cons, List.not_mem_nil, or_false] at h ⊢
  omega
theorem tk_ar_in {k : Nat} (h : k ∈ tk_ar) : k ∈ tk_ix := by
  unfold tk_ar at h
  unfold tk_ix
  simp only [List.mem_cons, List.not_mem_nil, or_false] at h ⊢
  omega
theorem tk_ar_no {k : Nat} (h : k ∈ tk_ar) : k ≠ 0 ∧ k ≠ 6 ∧ k ≠ 10 ∧ k ≠ 11 ∧ k < 22 := by
  unfold tk_ar at h
  simp only [List.mem_cons, List.not_mem_nil, or_false] at h
  omega
theorem nk_A.up {ad am : Nat → Nat} {sz sz' : Nat} (h : sz ≤ sz') : ∀ q, nk_A ad am sz' q → nk_A ad am sz q := fun _ h1 => h1.elim Or.inl (fun h2 => Or.inr (h2.elim Or.inl (fun h3 => Or.inr (Nat.le_trans h h3))))
theorem nk_A.in {ad am : Nat → Nat} {sz k : Nat} (h : k ∈ tk_ix) : nk_A ad am sz (am k) := Or.inr (Or.inl ⟨k, h, rfl⟩)
theorem nk_A.of {ad am : Nat → Nat} {sz : Nat} : ∀ q, gk_A ad sz q → nk_A ad am sz q := fun _ h => h.elim Or.inl (fun h2 => Or.inr (Or.inr h2))
section NKW
variable {D : va_G} {cI cZ cL : ClassId} {ad am : Nat → Nat} {b : Nat} {σ : nk_C} {τ : gk_C} {H H1 : Heap}
theorem tk_W.lt (h : tk_W D cI cZ cL ad am b τ H) {k : Nat} (hk : k ∈ tk_ix) : am k < H.size := by
  obtain ⟨h0, h1, h2, h3, h4, h5, h6⟩ := h
  rcases tk_ix_or hk with rfl | rfl | rfl | rfl | hk | hk
  · exact h1.lt
  · exact h4.lt
  · exact h5.lt
  · exact h6.lt
  · exact (h2 k hk).lt
  · exact (h3 k hk.1 hk.2).lt
theorem tk_W.kept (h : tk_W D cI cZ cL ad am b τ H) (hq : ∀ k, k ∈ tk_ix → H1[am k]? = H[am k]?) : tk_W D cI cZ cL ad am b τ H1 := by
  obtain ⟨h0, h1, h2, h3, h4, h5, h6⟩ := h
  exact ⟨h0, h1.kept (hq 0 (by decide)), fun k hk => (h2 k hk).kept (hq k (tk_ar_in hk)), fun k a b => (h3 k a b).kept (hq k (tk_z_in a b)), h4.kept (hq 6 (by decide)), h5.kept (hq 10 (by decide)), h6.kept (hq 11 (by decide))⟩
theorem nk_W.lt (h : nk_W D cI cZ cL ad am b σ H) {k : Nat} (hk : k ∈ tk_ix) : am k < H.size := h.2.1.lt hk
theorem nk_W.ltG (h : nk_W D cI cZ cL ad am b σ H) {k : Nat} (hk : k < 87) : ad k < H.size := h.1.lt hk
theorem nk_W.kept (h : nk_W D cI cZ cL ad am b σ H) (h1 : ∀ k, k < 87 → H1[ad k]? = H[ad k]?) (h2 : ∀ k, k ∈ tk_ix → H1[am k]? = H[am k]?) : nk_W D cI cZ cL ad am b σ H1 := ⟨h.1.kept h1, h.2.1.kept h2, h.2.2⟩
theorem nk_W.keptAll (h : nk_W D cI cZ cL ad am b σ H) (hk : ∀ q : Nat, q < H.size → H1[q]? = H[q]?) : nk_W D cI cZ cL ad am b σ H1 := h.kept (fun _ hk9 => hk _ (h.ltG hk9)) (fun _ hk9 => hk _ (h.lt hk9))
theorem nk_W.keptN (h : nk_W D cI cZ cL ad am b σ H) {a : Nat} (h1 : ∀ k, k < 87 → a ≠ ad k) (h2 : ∀ k, k ∈ tk_ix → a ≠ am k) (oq : ∀ q, q ≠ a → H1[q]? = H[q]?) : nk_W D cI cZ cL ad am b σ H1 := h.kept (fun k hk => oq _ (fun e => h1 k hk e.symm)) (fun k hk => oq _ (fun e => h2 k hk e.symm))
theorem nk_W.gate (h : nk_W D cI cZ cL ad am b σ H) {u : gk_C} (hu : gk_W D cI ad u H1) (hk : ∀ q : Nat, q < H.size → ¬ gk_A ad H.size q → H1[q]? = H[q]?) : nk_W D cI cZ cL ad am b (u, σ.2) H1 :=
  ⟨hu, h.2.1.kept (fun k hk9 => hk _ (h.lt hk9) (fun q => q.elim (fun ⟨j, j1, j2⟩ => h.2.2 k j hk9 j1 j2) (fun q => absurd (h.lt hk9) (Nat.not_lt.mpr q)))), h.2.2⟩
theorem nk_obj (h : nk_W D cI cZ cL ad am b σ H) : va_at D vwCl (am 0, .inr (9, tk_o ad am b σ.2.2)) H := h.2.1.2.1
theorem nk_arr (h : nk_W D cI cZ cL ad am b σ H) {k : Nat} (hk : k ∈ tk_ar) : va_at D vwCl (am k, .inl (cI, (tk_l k, .inl (σ.2.1 k)))) H := h.2.1.2.2.1 k hk
theorem nk_zr (h : nk_W D cI cZ cL ad am b σ H) {k : Nat} (hk : 22 ≤ k ∧ k < 36) : va_at D vwCl (am k, .inl (cZ, (5, .inl (σ.2.1 k)))) H := h.2.1.2.2.2.1 k hk.1 hk.2
theorem nk_o6 (h : nk_W D cI cZ cL ad am b σ H) : va_at D vwCl (am 6, tk_g cL 4 (tk_out am 4 22)) H := h.2.1.2.2.2.2.1
theorem nk_o10 (h : nk_W D cI cZ cL ad am b σ H) : va_at D vwCl (am 10, tk_g cL 5 (tk_out am 5 26)) H := h.2.1.2.2.2.2.2.1
theorem nk_o11 (h : nk_W D cI cZ cL ad am b σ H) : va_at D vwCl (am 11, tk_g cL 5 (tk_out am 5 31)) H := h.2.1.2.2.2.2.2.2
theorem nk_W.setS (h : nk_W D cI cZ cL ad am b σ H) {i : Nat} {v : Int32} (h1 : va_at D vwCl (am 0, .inr (9, tk_o ad am b (va_up σ.2.2 i v))) H1) (oq : ∀ q, q ≠ am 0 → H1[q]? = H[q]?) : nk_W D cI cZ cL ad am b (nk_s σ i v) H1 := by
  have ne : ∀ j, j ∈ tk_ix → j ≠ 0 → H1[am j]? = H[am j]? := fun j hj hn => oq _ (fun e => hn (h.2.1.1 j 0 hj (by decide) e))
  refine ⟨h.1.kept (fun k hk => oq _ (fun e => h.2.2 0 k (by decide) hk e.symm)), ⟨h.2.1.1, h1, fun k hk => (nk_arr h hk).kept (ne k (tk_ar_in hk) (tk_ar_no hk).1), fun k a c => (nk_zr h ⟨a, c⟩).kept (ne k (tk_z_in a c) (by omega)), (nk_o6 h).kept (ne 6 (by decide) (by decide)), (nk_o10 h).kept (ne 10 (by decide) (by decide)), (nk_o11 h).kept (ne 11 (by decide) (by decide))⟩, h.2.2⟩
theorem nk_W.setR (h : nk_W D cI cZ cL ad am b σ H) {k : Nat} {f : Nat → Int32} (hk : k ∈ tk_ar) (h1 : va_at D vwCl (am k, .inl (cI, (tk_l k, .inl f))) H1) (oq : ∀ q, q ≠ am k → H1[q]? = H[q]?) : nk_W D cI cZ cL ad am b (nk_r σ k f) H1 := by
  have hn := tk_ar_no hk
  have ne : ∀ j, j ∈ tk_ix → j ≠ k → H1[am j]? = H[am j]? := fun j hj hn => oq _ (fun e => hn (h.2.1.1 j k hj (tk_ar_in hk) e))
  refine ⟨h.1.kept (fun j hj => oq _ (fun e => h.2.2 k j (tk_ar_in hk) hj e.symm)), ⟨h.2.1.1, (nk_obj h).kept (ne 0 (by decide) (by omega)), fun j hj => ?_, fun j a c => ?_, (nk_o6 h).kept (ne 6 (by decide) (by omega)), (nk_o10 h).kept (ne 10 (by decide) (by omega)), (nk_o11 h).kept (ne 11 (by decide) (by omega))⟩, h.2.2⟩
  · by_cases e : j = k
    · subst e
      show va_at D vwCl (am j, .inl (cI, (tk_l j, .inl (va_up σ.2.1 j f j)))) H1
      rw [va_up_self]
      exact h1
    · show va_at D vwCl (am j, .inl (cI, (tk_l j, .inl (va_up σ.2.1 k f j)))) H1
      rw [va_up_ne _ _ e]
      exact (nk_arr h hj).kept (ne j (tk_ar_in hj) e)
  · show va_at D vwCl (am j, .inl (cZ, (5, .inl (va_up σ.2.1 k f j)))) H1
    rw [va_up_ne _ _ (show j ≠ k by omega)]
    exact (nk_zr h ⟨a, c⟩).kept (ne j (tk_z_in a c) (by omega))
theorem nk_W.setZ (h : nk_W D cI cZ cL ad am b σ H) {k : Nat} {f : Nat → Int32} (hk : 22 ≤ k ∧ k < 36) (h1 : va_at D vwCl (am k, .inl (cZ, (5, .inl f))) H1) (oq : ∀ q, q ≠ am k → H1[q]? = H[q]?) : nk_W D cI cZ cL ad am b (nk_r σ k f) H1 := by
  have ne : ∀ j, j ∈ tk_ix → j ≠ k → H1[am j]? = H[am j]? := fun j hj hn => oq _ (fun e => hn (h.2.1.1 j k hj (tk_z_in hk.1 hk.2) e))
  refine ⟨h.1.kept (fun j hj => oq _ (fun e => h.2.2 k j (tk_z_in hk.1 hk.2) hj e.symm)), ⟨h.2.1.1, (nk_obj h).kept (ne 0 (by decide) (by omega)), fun j hj => ?_, fun j a c => ?_, (nk_o6 h).kept (ne 6 (by decide) (by omega)), (nk_o10 h).kept (ne 10 (by decide) (by omega)), (nk_o11 h).kept (ne 11 (by decide) (by omega))⟩, h.2.2⟩
  · have hn := tk_ar_no hj
    show va_at D vwCl (am j, .inl (cI, (tk_l j, .inl (va_up σ.2.1 k f j)))) H1
    rw [va_up_ne _ _ (show j ≠ k by omega)]
    exact (nk_arr h hj).kept (ne j (tk_ar_in hj) (by omega))
  · by_cases e : j = k
    · subst e
      show va_at D vwCl (am j, .inl (cZ, (5, .inl (va_up σ.2.1 j f j)))) H1
      rw [va_up_self]
      exact h1
    · show va_at D vwCl (am j, .inl (cZ, (5, .inl (va_up σ.2.1 k f j)))) H1
      rw [va_up_ne _ _ e]
      exact (nk_zr h ⟨a, c⟩).kept (ne j (tk_z_in a c) e)
/-- an int array that is none of these -/
def nk_D (D : va_G) (cI : ClassId) (ad am : Nat → Nat) (q n : Nat) (f : Nat → Int32) (H : Heap) : Prop := va_at D vwCl (q, .inl (cI, (n, .inl f))) H ∧ (∀ k, k < 87 → q ≠ ad k) ∧ ∀ k, k ∈ tk_ix → q ≠ am k
section NKD
variable {q n : Nat} {f : Nat → Int32}
theorem nk_D.nA (h : nk_D D cI ad am q n f H) : ¬ nk_A ad am H.size q := by
  rintro (⟨k, hk, e⟩ | ⟨k, hk, e⟩ | h1)
  · exact h.2.1 k hk e
  · exact h.2.2 k hk e
  · exact absurd h.1.lt (Nat.not_lt.mpr h1)
theorem nk_D.kept (h : nk_D D cI ad am q n f H) (hk : ∀ z : Nat, z < H.size → ¬ nk_A ad am H.size z → H1[z]? = H[z]?) : nk_D D cI ad am q n f H1 := ⟨h.1.kept (hk q h.1.lt h.nA), h.2⟩
theorem nk_D.gate (h : nk_D D cI ad am q n f H) (hk : ∀ z : Nat, z < H.size → ¬ gk_A ad H.size z → H1[z]? = H[z]?) : nk_D D cI ad am q n f H1 := ⟨h.1.kept (hk q h.1.lt (fun z => h.nA (nk_A.of _ z))), h.2⟩
theorem nk_D.keptAll (h : nk_D D cI ad am q n f H) (hk : ∀ z : Nat, z < H.size → H1[z]? = H[z]?) : nk_D D cI ad am q n f H1 := ⟨h.1.kept (hk q h.1.lt), h.2⟩
theorem nk_D.oq (h : nk_D D cI ad am q n f H) {a : Nat} (oq : ∀ z, z ≠ a → H1[z]? = H[z]?) (hne : q ≠ a) : nk_D D cI ad am q n f H1 := ⟨h.1.kept (oq q hne), h.2⟩
theorem nk_D.oqS (h : nk_D D cI ad am q n f H) {k : Nat} (hk : k ∈ tk_ix) (oq : ∀ z, z ≠ am k → H1[z]? = H[z]?) : nk_D D cI ad am q n f H1 := ⟨h.1.kept (oq q (h.2.2 k hk)), h.2⟩
end NKD
end NKW
/-- none of the three refusals passes for another -/
def gk_NC (U : State) : Prop := va_Nc gk_E1 gk_E2 U ∧ va_Nc gk_E1 gk_E3 U ∧ va_Nc gk_E2 gk_E3 U ∧ va_Nc gk_E3 gk_E2 U
theorem gk_NC.moved {u U : State} (hvm : u.vm.Alike U.vm) (h : gk_NC u) : gk_NC U := ⟨h.1.moved hvm, h.2.1.moved hvm, h.2.2.1.moved hvm, h.2.2.2.moved hvm⟩
/-- what else a method of the law's Gate rests on: the refusals' words, the script -/
def nk_Z (q1 q2 q3 b L : Nat) (xs : Nat → Int32) (A : Nat → Prop) (U : State) (H : Heap) : Prop := gk_Y q1 q2 q3 A U H ∧ va_X b L xs U H ∧ b < H.size ∧ ¬ A b ∧ gk_NC U ∧ L ≤ 260
section NKZ
variable {q1 q2 q3 b L : Nat} {xs : Nat → Int32} {A B : Nat → Prop} {s U : State} {H H1 : Heap}
theorem nk_Z.warm (hW : s.WarmedH U.vm) (h : nk_Z q1 q2 q3 b L xs A s H) : nk_Z q1 q2 q3 b L xs A U H := ⟨h.1.warm hW, h.2.1.moved hW.alike, h.2.2.1, h.2.2.2.1, h.2.2.2.2.1.moved hW.alike, h.2.2.2.2.2⟩
theorem nk_Z.kept (h : nk_Z q1 q2 q3 b L xs A U H) (hz : H.size ≤ H1.size) (hq : ∀ a : Nat, a < H.size → ¬ A a → H1[a]? = H[a]?) : nk_Z q1 q2 q3 b L xs A U H1 := ⟨h.1.kept hq, h.2.1.kept (hq b h.2.2.1 h.2.2.2.1), Nat.lt_of_lt_of_le h.2.2.1 hz, h.2.2.2⟩
theorem nk_Z.narrow (h : nk_Z q1 q2 q3 b L xs A U H) (hAB : ∀ q, B q → A q) : nk_Z q1 q2 q3 b L xs B U H := ⟨h.1.narrow hAB, h.2.1, h.2.2.1, fun q => h.2.2.2.1 (hAB _ q), h.2.2.2.2⟩
theorem nk_Z.blind {g : JFrame} {mk : MethodId} {a : Array Value} (h : nk_Z q1 q2 q3 b L xs A U H) : nk_Z q1 q2 q3 b L xs A (U.calling g mk a) H := ⟨h.1.blind, h.2.1.moved (Vm.Alike.refl U.vm), h.2.2.1, h.2.2.2.1, h.2.2.2.2.1.moved (Vm.Alike.refl U.vm), h.2.2.2.2.2⟩
theorem nk_Z.to {A0 : Nat → Prop} {locs : List Loc} (h : nk_Z q1 q2 q3 b L xs A s s.heap) (hS : va_S A s.heap H locs) (hA : ∀ q, A0 q → A q) (hU : U.heap = H) (hW : s.WarmedH U.vm) : nk_Z q1 q2 q3 b L xs A0 U U.heap := by
  rw [hU]
  exact ((h.kept hS.1 hS.2.1).warm hW).narrow hA
end NKZ
def nk_Pc (D : va_G) (cI cZ cG cL : ClassId) (ad am : Nat → Nat) (q1 q2 q3 b L : Nat) (xs : Nat → Int32) (av : List Value) (sz : Nat) (σ : nk_C) (X : Heap → Prop) : Array Value → State → Prop := va_Pc av (fun U => U.heap.size = sz ∧ nk_W D cI cZ cL ad am b σ U.heap ∧ gk_K D cI cZ cG cL U ∧ nk_Z q1 q2 q3 b L xs (nk_A ad am sz) U U.heap ∧ X U.heap)
theorem nk_blind {D : va_G} {cI cZ cG cL : ClassId} {ad am : Nat → Nat} {q1 q2 q3 b L : Nat} {xs : Nat → Int32} {av : List Value} {sz : Nat} {σ : nk_C} {X : Heap → Prop} : FrameBlind (nk_Pc D cI cZ cG cL ad am q1 q2 q3 b L xs av sz σ X) := fun _ _ _ _ q => ⟨q.1, q.2.1, q.2.2.1, gk_K.blind q.2.2.2.1, q.2.2.2.2.1.blind, q.2.2.2.2.2⟩
abbrev nk_B (D : va_G) (cI cZ cL : ClassId) (ad am : Nat → Nat) (b : Nat) : nk_C → State → Prop := fun u t => nk_W D cI cZ cL ad am b u t.heap
abbrev nk_XF : String → State → State → Prop := vx_X (fun _ : Unit => False) (fun _ _ _ => True) gk_An
def nk_st (σ : nk_C) (k : Nat) (i x : Int32) : nk_C := nk_r σ k (upd (σ.2.1 k) i.toNatClampNeg x)
theorem nk_stW {D : va_G} {cI cZ cL : ClassId} {ad am : Nat → Nat} {b : Nat} {σ σ' : nk_C} {k : Nat} {i x : Int32} {H : Heap} (e : σ' = nk_st σ k i x) (h : nk_W D cI cZ cL ad am b (nk_r σ k (upd (σ.2.1 k) i.toNatClampNeg x)) H) : nk_W D cI cZ cL ad am b σ' H := by rw [e]; exact h
section NKL
variable {p : Program} {l : Launch} {e : Env} {R : Room} {s : State} {m : MethodId} {args : Array Value} {below : List Frame} {meth : Method} {c : Code} {H : Heap} {locs : List Loc} {cells slots : Nat} {Q : State → Prop}
variable {D : va_G} {cI cZ cG cL : ClassId} {ad am : Nat → Nat} {σ : nk_C} {cc : ByteArray} {pc nL mc ms : Nat} {ls : Array Slot} {rest st0 : List Value} {X : Heap → Prop} {A : Nat → Prop} {q1 q2 q3 b0 L : Nat} {xs : Nat → Int32}
variable {y : MethodName} {ws : List Cond} {rm : Room} {own C : String} {index n maxL : Nat} {bytes : ByteArray} {ret : Option FieldType} {Ts : List Cond} {b : Addr} {As : List Value}
theorem nk_callVi {Qp : Int32 → nk_C → Prop} (C0 : CallFix p m c cc nL s args Ts own) (hM : Met l y ws rm (nk_Pc D cI cZ cG cL ad am q1 q2 q3 b0 L xs (.ref b :: As) H.size σ X) (va_Qi Qp (nk_B D cI cZ cL ad am b0) (nk_A ad am H.size)) mc ms (nk_A ad am H.size)) (cw : CallW R s args own C index y bytes maxL ret ws rm mc ms n)
    (hrecv : ∃ cell : Cell, H[b]? = some cell ∧ cell.vm.isStatics = false ∧ s.vm.findClass C = some cell.cls) (hW : nk_W D cI cZ cL ad am b0 σ H) (hK : gk_K D cI cZ cG cL s) (hZ : nk_Z q1 q2 q3 b0 L xs A s s.heap) (hX : X H) (hS : va_S A s.heap H locs) (hA : ∀ q, nk_A ad am H.size q → A q) (hn : As.length = n) (hsz : ls.size = nL) (hst : st0 = As.reverse ++ .ref b :: rest)
    (hrm : 2 * (F0 m pc ls st0).monitorRoom + (rest.map fun v => v.category).sum ≤ 8) (hdg : decode cc pc = .ok (.invokevirtual index, 3)) (hf : cells + mc ≤ R.cells ∧ slots + ms ≤ R.slots)
    (kk : ∀ (r : Int32) (u : nk_C) (H1 : Heap) (locs1 : List Loc), Qp r u → nk_W D cI cZ cL ad am b0 u H1 → H.size ≤ H1.size → (∀ q : Nat, q < H.size → ¬ nk_A ad am H.size q → H1[q]? = H[q]?) → va_S A s.heap H1 locs1 → W p l e R s m args below meth c H1 locs1 (cells + mc) (slots + ms) Q (F0 m (pc + 3) ls (.int r :: rest))) : W p l e R s m args below meth c H locs cells slots Q (F0 m pc ls st0) :=
  va_calli (va_runV C0 hM cw ⟨nk_blind, hrecv, fun U hU hW' => ⟨rfl, by rw [hU], by rw [hU]; exact hW, hK.warm hW', hZ.to hS hA hU hW', by rw [hU]; exact hX⟩⟩ rfl hn hsz hst hrm hdg hf) hS (fun q _ h => hA q h) hA (fun r u t H1 locs1 ht _ hw hB hz hk hS1 => kk r u H1 locs1 hw (by subst ht; exact hB) hz hk hS1)
theorem nk_callRi {Qr : Int32 → Prop} (C0 : CallFix p m c cc nL s args Ts own) (hM : Met l y ws rm (nk_Pc D cI cZ cG cL ad am q1 q2 q3 b0 L xs (.ref b :: As) H.size σ X) (va_Qi (fun r u => u = σ ∧ Qr r) (nk_B D cI cZ cL ad am b0) (nk_A ad am H.size)) mc ms (nk_A ad am H.size)) (cw : CallW R s args own C index y bytes maxL ret ws rm mc ms n)
    (hrecv : ∃ cell : Cell, H[b]? = some cell ∧ cell.vm.isStatics = false ∧ s.vm.findClass C = some cell.cls) (hW : nk_W D cI cZ cL ad am b0 σ H) (hK : gk_K D cI cZ cG cL s) (hZ : nk_Z q1 q2 q3 b0 L xs A s s.heap) (hX : X H) (hS : va_S A s.heap H locs) (hA : ∀ q, nk_A ad am H.size q → A q) (hn : As.length = n) (hsz : ls.size = nL) (hst : st0 = As.reverse ++ .ref b :: rest)
    (hrm : 2 * (F0 m pc ls st0).monitorRoom + (rest.map fun v => v.category).sum ≤ 8) (hdg : decode cc pc = .ok (.invokevirtual index, 3)) (hf : cells + mc ≤ R.cells ∧ slots + ms ≤ R.slots)
    (kk : ∀ (r : Int32) (H1 : Heap) (locs1 : List Loc), Qr r → nk_W D cI cZ cL ad am b0 σ H1 → H.size ≤ H1.size → (∀ q : Nat, q < H.size → ¬ nk_A ad am H.size q → H1[q]? = H[q]?) → va_S A s.heap H1 locs1 → W p l e R s m args below meth c H1 locs1 (cells + mc) (slots + ms) Q (F0 m (pc + 3) ls (.int r :: rest))) : W p l e R s m args below meth c H locs cells slots Q (F0 m pc ls st0) :=
  nk_callVi C0 hM cw hrecv hW hK hZ hX hS hA hn hsz hst hrm hdg hf (fun r u H1 locs1 hq hW1 hz hk hS1 => kk r H1 locs1 hq.2 (by rw [← hq.1]; exact hW1) hz hk hS1)
theorem nk_gVi {Qp : Int32 → gk_C → Prop} (C0 : CallFix p m c cc nL s args Ts own) (hM : Met l y ws rm (gk_Pc D cI cZ cG cL ad (.ref b :: As) H.size σ.1) (va_Qi Qp (gk_B D cI ad) (gk_A ad H.size)) 0 0 (gk_A ad H.size)) (cw : CallW R s args own C index y bytes maxL ret ws rm 0 0 n)
    (hrecv : ∃ cell : Cell, H[b]? = some cell ∧ cell.vm.isStatics = false ∧ s.vm.findClass C = some cell.cls) (hW : nk_W D cI cZ cL ad am b0 σ H) (hK : gk_K D cI cZ cG cL s) (hS : va_S A s.heap H locs) (hA : ∀ q, nk_A ad am H.size q → A q) (hn : As.length = n) (hsz : ls.size = nL) (hst : st0 = As.reverse ++ .ref b :: rest)
    (hrm : 2 * (F0 m pc ls st0).monitorRoom + (rest.map fun v => v.category).sum ≤ 8) (hdg : decode cc pc = .ok (.invokevirtual index, 3)) (hf : cells ≤ R.cells ∧ slots ≤ R.slots)
    (kk : ∀ (r : Int32) (u : gk_C) (H1 : Heap) (locs1 : List Loc), Qp r u → nk_W D cI cZ cL ad am b0 (u, σ.2) H1 → H.size ≤ H1.size → (∀ q : Nat, q < H.size → ¬ gk_A ad H.size q → H1[q]? = H[q]?) → va_S A s.heap H1 locs1 → W p l e R s m args below meth c H1 locs1 cells slots Q (F0 m (pc + 3) ls (.int r :: rest))) : W p l e R s m args below meth c H locs cells slots Q (F0 m pc ls st0) :=
  va_calli (va_runV C0 hM cw ⟨gk_blind, hrecv, fun U hU hW' => ⟨rfl, by rw [hU], by rw [hU]; exact hW.1, hK.warm hW'⟩⟩ rfl hn hsz hst hrm hdg hf) hS (fun q _ h => hA q (nk_A.of q h)) (fun q h => hA q (nk_A.of q h)) (fun r u t H1 locs1 ht _ hw hB hz hk hS1 => kk r u H1 locs1 hw (hW.gate (by subst ht; exact hB) hk) hz hk hS1)
theorem nk_gVl {Qp : Int64 → gk_C → Prop} (C0 : CallFix p m c cc nL s args Ts own) (hM : Met l y ws rm (gk_Pc D cI cZ cG cL ad (.ref b :: As) H.size σ.1) (va_Ql Qp (gk_B D cI ad) (gk_A ad H.size)) 0 0 (gk_A ad H.size)) (cw : CallW R s args own C index y bytes maxL ret ws rm 0 0 n)
    (hrecv : ∃ cell : Cell, H[b]? = some cell ∧ cell.vm.isStatics = false ∧ s.vm.findClass C = some cell.cls) (hW : nk_W D cI cZ cL ad am b0 σ H) (hK : gk_K D cI cZ cG cL s) (hS : va_S A s.heap H locs) (hA : ∀ q, nk_A ad am H.size q → A q) (hn : As.length = n) (hsz : ls.size = nL) (hst : st0 = As.reverse ++ .ref b :: rest)
    (hrm : 2 * (F0 m pc ls st0).monitorRoom + (rest.map fun v => v.category).sum ≤ 8) (hdg : decode cc pc = .ok (.invokevirtual index, 3)) (hf : cells ≤ R.cells ∧ slots ≤ R.slots)
    (kk : ∀ (r : Int64) (u : gk_C) (H1 : Heap) (locs1 : List Loc), Qp r u → nk_W D cI cZ cL ad am b0 (u, σ.2) H1 → H.size ≤ H1.size → (∀ q : Nat, q < H.size → ¬ gk_A ad H.size q → H1[q]? = H[q]?) → va_S A s.heap H1 locs1 → W p l e R s m args below meth c H1 locs1 cells slots Q (F0 m (pc + 3) ls (.long r :: rest))) : W p l e R s m args below meth c H locs cells slots Q (F0 m pc ls st0) :=
  va_calll (va_runV C0 hM cw ⟨gk_blind, hrecv, fun U hU hW' => ⟨rfl, by rw [hU], by rw [hU]; exact hW.1, hK.warm hW'⟩⟩ rfl hn hsz hst hrm hdg hf) hS (fun q _ h => hA q (nk_A.of q h)) (fun q h => hA q (nk_A.of q h)) (fun r u t H1 locs1 ht _ hw hB hz hk hS1 => kk r u H1 locs1 hw (hW.gate (by subst ht; exact hB) hk) hz hk hS1)
theorem nk_gRi {Qr : Int32 → Prop} (C0 : CallFix p m c cc nL s args Ts own) (hM : Met l y ws rm (gk_Pc D cI cZ cG cL ad (.ref b :: As) H.size σ.1) (va_Qi (fun r u => u = σ.1 ∧ Qr r) (gk_B D cI ad) (gk_A ad H.size)) 0 0 (gk_A ad H.size)) (cw : CallW R s args own C index y bytes maxL ret ws rm 0 0 n)
    (hrecv : ∃ cell : Cell, H[b]? = some cell ∧ cell.vm.isStatics = false ∧ s.vm.findClass C = some cell.cls) (hW : nk_W D cI cZ cL ad am b0 σ H) (hK : gk_K D cI cZ cG cL s) (hS : va_S A s.heap H locs) (hA : ∀ q, nk_A ad am H.size q → A q) (hn : As.length = n) (hsz : ls.size = nL) (hst : st0 = As.reverse ++ .ref b :: rest)
    (hrm : 2 * (F0 m pc ls st0).monitorRoom + (rest.map fun v => v.category).sum ≤ 8) (hdg : decode cc pc = .ok (.invokevirtual index, 3)) (hf : cells ≤ R.cells ∧ slots ≤ R.slots)
    (kk : ∀ (r : Int32) (H1 : Heap) (locs1 : List Loc), Qr r → nk_W D cI cZ cL ad am b0 σ H1 → H.size ≤ H1.size → (∀ q : Nat, q < H.size → ¬ gk_A ad H.size q → H1[q]? = H[q]?) → va_S A s.heap H1 locs1 → W p l e R s m args below meth c H1 locs1 cells slots Q (F0 m (pc + 3) ls (.int r :: rest))) : W p l e R s m args below meth c H locs cells slots Q (F0 m pc ls st0) :=
  nk_gVi C0 hM cw hrecv hW hK hS hA hn hsz hst hrm hdg hf (fun r u H1 locs1 hq hW1 hz hk hS1 => kk r H1 locs1 hq.2 (by
    have e : (u, σ.2) = σ := by rw [hq.1]
    rw [← e]
    exact hW1) hz hk hS1)
theorem nk_gTi {T : String → gk_C → Prop} {Qp : Int32 → gk_C → Prop} (C0 : CallFix p m c cc nL s args Ts own) (hM : vx_Met l y ws rm (gk_Pt D cI cZ cG cL ad q1 q2 q3 (.ref b :: As) H.size σ.1) (va_Qi Qp (gk_B D cI ad) (gk_A ad H.size)) (gk_XT D cI ad T H.size) mc ms (gk_A ad H.size)) (cw : CallW R s args own C index y bytes maxL ret ws rm mc ms n)
    (hrecv : ∃ cell : Cell, H[b]? = some cell ∧ cell.vm.isStatics = false ∧ s.vm.findClass C = some cell.cls) (hW : nk_W D cI cZ cL ad am b0 σ H) (hK : gk_K D cI cZ cG cL s) (hZ : nk_Z q1 q2 q3 b0 L xs A s s.heap) (hS : va_S A s.heap H locs) (hA : ∀ q, nk_A ad am H.size q → A q) (hn : As.length = n) (hsz : ls.size = nL) (hst : st0 = As.reverse ++ .ref b :: rest)
    (hrm : 2 * (F0 m pc ls st0).monitorRoom + (rest.map fun v => v.category).sum ≤ 8) (hdg : decode cc pc = .ok (.invokevirtual index, 3)) (hf : cells + mc ≤ R.cells ∧ slots + ms ≤ R.slots)
    (kx : ∀ (E : String) (ce : Cell) (q9 : Addr) (u : gk_C) (H1 : Heap) (locs1 : List Loc), T E u → nk_W D cI cZ cL ad am b0 (u, σ.2) H1 → (∀ q : Nat, q < H.size → ¬ gk_A ad H.size q → H1[q]? = H[q]?) → va_S A s.heap H1 locs1 → H1[q9]? = some ce → ce.vm = .none → s.vm.findClass E = some ce.cls → vx_W p l e R s m args below meth c H1 locs1 (cells + mc) (slots + ms) Q (F0 m pc ls rest) q9)
    (kk : ∀ (r : Int32) (u : gk_C) (H1 : Heap) (locs1 : List Loc), Qp r u → nk_W D cI cZ cL ad am b0 (u, σ.2) H1 → (∀ q : Nat, q < H.size → ¬ gk_A ad H.size q → H1[q]? = H[q]?) → va_S A s.heap H1 locs1 → W p l e R s m args below meth c H1 locs1 (cells + mc) (slots + ms) Q (F0 m (pc + 3) ls (.int r :: rest))) :
    W p l e R s m args below meth c H locs cells slots Q (F0 m pc ls st0) := by
  have hA2 : ∀ q, gk_A ad H.size q → A q := fun q h => hA q (nk_A.of q h)
  refine vx_calli (A0 := A) (H0 := s.heap) (vx_runV (As := As) (rest := rest) C0 hM cw ⟨gk_Pt.blind, hrecv, fun U hU hW' => ⟨rfl, by rw [hU], by rw [hU]; exact hW.1, hK.warm hW', (hZ.to hS hA2 hU hW').1⟩⟩ rfl hn hsz hst hrm hdg hf) hS (fun q _ h => hA2 q h) hA2 (fun q _ h => hA2 q h) ?_ ?_
  · intro E ce q9 u t H1 locs1 hH ha hu hE hz hq hS1 hc1 hc2 hc3
    exact kx E ce q9 u.2 H1 locs1 (by rw [hE.1]; exact hu) (hW.gate (by rw [← hH]; exact hE.2) hq) hq hS1 hc1 hc2 hc3
  · intro r u t H1 locs1 hH ha hu hB hz hq hS1
    exact kk r u H1 locs1 hu (hW.gate (by rw [← hH]; exact hB) hq) hq hS1
theorem nk_reti {Qp : Int32 → nk_C → Prop} {v : Int32} {u : nk_C} (C0 : gk_F p s m args meth c cc nL (some .int) own) (hq : Qp v u) (hW : nk_W D cI cZ cL ad am b0 u H) (hS : va_S (nk_A ad am s.heap.size) s.heap H locs) (hdg : decode cc pc = .ok (.ireturn, 1)) :
    W p l e R s m args below meth c H locs cells slots (MQ below (va_Qi Qp (nk_B D cI cZ cL ad am b0) (nk_A ad am s.heap.size)) args s cells slots (nk_A ad am s.heap.size)) (F0 m pc ls [.int v]) :=
  W.iret (v := v) C0.1 C0.2.1 C0.2.2.2.2.2.1 (fun t ht _ => ⟨⟨v, u, rfl, hq, by show nk_W D cI cZ cL ad am b0 u t.heap; rw [ht]; exact hW⟩, hS.F ht⟩) hS.2.2 hdg (hlocks := C0.2.2.2.2.2.2)
theorem nk_retz {Qp : Int32 → nk_C → Prop} {v : Int32} {u : nk_C} (C0 : gk_F p s m args meth c cc nL (some .boolean) own) (hn : narrow .boolean (.int v) = .int v) (hq : Qp v u) (hW : nk_W D cI cZ cL ad am b0 u H) (hS : va_S (nk_A ad am s.heap.size) s.heap H locs) (hdg : decode cc pc = .ok (.ireturn, 1)) :
    W p l e R s m args below meth c H locs cells slots (MQ below (va_Qi Qp (nk_B D cI cZ cL ad am b0) (nk_A ad am s.heap.size)) args s cells slots (nk_A ad am s.heap.size)) (F0 m pc ls [.int v]) :=
  W.zret (v := v) C0.1 C0.2.1 C0.2.2.2.2.2.1 hn (fun t ht _ => ⟨⟨v, u, rfl, hq, by show nk_W D cI cZ cL ad am b0 u t.heap; rw [ht]; exact hW⟩, hS.F ht⟩) hS.2.2 hdg (hlocks := C0.2.2.2.2.2.2)
/-- a row of booleans out of a row of rows -/
theorem nk_aalz (hexec : p.tables.exec = Jvm.exec) (hb : c.code = cc) (hK : gk_K D cI cZ cG cL s) {a n i0 : Nat} (h : va_at D vwCl (a, tk_g cL n (tk_out am n i0)) H) {i : Int32} (hin : vp_in i n) (h0 : 22 ≤ i0 ∧ i0 + n ≤ 36) (hdg : decode cc pc = .ok (.aaload, 1))
    (kk : (22 ≤ i0 + i.toNatClampNeg ∧ i0 + i.toNatClampNeg < 36) → W p l e R s m args below meth c H locs cells slots Q (F0 m (pc + 1) ls (.ref (am (i0 + i.toNatClampNeg)) :: rest))) : W p l e R s m args below meth c H locs cells slots Q (F0 m pc ls (.int i :: .ref a :: rest)) := by
  have hlt : i.toNatClampNeg < n := Nat.not_le.mp fun q => hin (Or.inr q)
  exact W.aald (v := .ref (am (i0 + i.toNatClampNeg))) hexec hb h ((hK.1.2 3 (cL, .array .boolean) rfl).1 n (fun j => va_rf (tk_out am n i0 j))) rfl (fun q => by cases q) (by show ¬ (i < 0 ∨ (arrV _ _ _).slots.size ≤ _); rw [arrV_size]; exact hin) (by show (arrV _ _ _).slots[_]? = _; rw [arrV_read _ _ hlt]; unfold tk_out; rw [if_pos hlt]; rfl) rfl rfl hdg (kk ⟨by omega, by omega⟩)
end NKL
section NKS
variable {p : Program} {l : Launch} {e : Env} {R : Room} {s : State} {m : MethodId} {args : Array Value} {below : List Frame} {meth : Method} {c : Code} {H : Heap} {locs : List Loc} {cells slots : Nat} {Q : State → Prop}
variable {D : va_G} {cc : ByteArray} {pc : Nat} {ls : Array Slot} {rest : List Value}
/-- a store into a row of booleans -/
theorem gk_zast {A : Nat → Prop} {H0 : Heap} {tys : List (ClassId × FieldType)} {a : Nat} (hexec : p.tables.exec = Jvm.exec) (hb : c.code = cc) (hK : va_K D vwCl tys s) (hS : va_S A H0 H locs) (hAa : A a) (t0 : Nat) {cA : ClassId} {n : Nat} {f : Nat → Int32} (h : va_at D vwCl (a, .inl (cA, (n, .inl f))) H) (ht : tys[t0]? = some (cA, .boolean)) {i x : Int32} (hin : vp_in i n) (hdg : decode cc pc = .ok (.bastore, 1))
    (kk : ∀ (H1 : Heap) (locs1 : List Loc), va_at D vwCl (a, .inl (cA, (n, .inl (upd f i.toNatClampNeg (vp_nar .boolean x))))) H1 → H1.size = H.size → (∀ q, q ≠ a → H1[q]? = H[q]?) → va_S A H0 H1 locs1 → W p l e R s m args below meth c H1 locs1 cells slots Q (F0 m (pc + 1) ls rest)) : W p l e R s m args below meth c H locs cells slots Q (F0 m pc ls (.int x :: .int i :: .ref a :: rest)) := by
  refine W.zast hexec hb h ((hK.2 t0 _ ht).1 n (fun j => .int (f j))) (fun q => by cases q) (by show ¬ (i < 0 ∨ (arrV _ _ _).slots.size ≤ _); rw [arrV_size]; exact hin) rfl rfl hdg fun H1 e z oq => ?_
  refine kk H1 _ ?_ z oq (hS.put z oq hAa)
  show H1[a]? = some (vp_cell _ _)
  rw [e]
  rw [vp_cell_i, vp_cell_i, arrV_store]
  congr 2
  funext q
  by_cases hq : q = i.toNatClampNeg
  · subst hq
    simp [updV, upd, vp_nar]
    try rfl
  · simp [updV, upd, hq]
end NKS
