/-! methods of the reference by hand: the wrappers over the scratch rows, differences, allNears -/
def wv_X9_had (σ : gk_C) (a0 : Int32) (Q : Int32 → Prop) : Prop := ∀ f g, w_X9_had (mk_sc σ f g) a0 (fun r u => (∃ f' g', u = mk_sc σ f' g') ∧ Q r)
theorem c_X9_hadV (l : Launch) (D : va_G) (cI cZ cG cL : ClassId) (am : Nat → Nat) {σ : gk_C} {a0 : Int32} {Q : Int32 → Prop} {sz : Nat} (hw : wv_X9_had σ a0 Q) : Met l yX9_had wsX9_had rmX9_had (mk_Pc (mk_V D cI cZ am) D cI cZ cG cL [.ref (am 38), .int a0] sz σ (fun _ => True)) (va_Qi (fun r u => u = σ ∧ Q r) (mk_B (mk_V D cI cZ am)) (mk_A am sz)) 0 0 (mk_A am sz) := by
  refine MetFree.mono (MetFree.ex (G := (Nat → Int32) × (Nat → Int32)) (fun i => c_X9_had l D cI cZ cG cL am (σ := mk_sc σ i.1 i.2) (sz := sz) (hw i.1 i.2))) (fun a s h => ?_) (fun _ _ _ _ _ h => h) (fun a s o t _ h => ?_)
  · obtain ⟨h1, h2, ⟨f, g, h3⟩, h4⟩ := h
    exact ⟨(f, g), h1, h2, h3, h4⟩
  · obtain ⟨i, hi, ⟨⟨r, u, h1, ⟨⟨f', g', h2⟩, h3⟩, h4⟩, h5⟩, h6⟩ := h
    exact ⟨⟨⟨r, σ, h1, ⟨rfl, h3⟩, f', g', by rw [← h2]; exact h4⟩, h5⟩, h6⟩
def wv_X9_weigh (σ : gk_C) (a0 : Int32) (fP1 : Nat → Int32) (a2 a3 : Int32) (Q : Int32 → Prop) : Prop := ∀ f g, w_X9_weigh (mk_sc σ f g) a0 fP1 a2 a3 (fun r u => (∃ f' g', u = mk_sc σ f' g') ∧ Q r)
theorem c_X9_weighV (l : Launch) (D : va_G) (cI cZ cG cL : ClassId) (am : Nat → Nat) {σ : gk_C} {a0 : Int32} {fP1 : Nat → Int32} {a2 a3 : Int32} {qP1 : Nat} {Q : Int32 → Prop} {sz : Nat} (hw : wv_X9_weigh σ a0 fP1 a2 a3 Q) : Met l yX9_weigh wsX9_weigh rmX9_weigh (mk_Pc (mk_V D cI cZ am) D cI cZ cG cL [.ref (am 38), .int a0, .ref qP1, .int a2, .int a3] sz σ (fun H => mk_D D cI am qP1 12 fP1 H ∧ True)) (va_Qi (fun r u => u = σ ∧ Q r) (mk_B (mk_V D cI cZ am)) (mk_A am sz)) 0 0 (mk_A am sz) := by
  refine MetFree.mono (MetFree.ex (G := (Nat → Int32) × (Nat → Int32)) (fun i => c_X9_weigh l D cI cZ cG cL am (σ := mk_sc σ i.1 i.2) (qP1 := qP1) (sz := sz) (hw i.1 i.2))) (fun a s h => ?_) (fun _ _ _ _ _ h => h) (fun a s o t _ h => ?_)
  · obtain ⟨h1, h2, ⟨f, g, h3⟩, h4⟩ := h
    exact ⟨(f, g), h1, h2, h3, h4⟩
  · obtain ⟨i, hi, ⟨⟨r, u, h1, ⟨⟨f', g', h2⟩, h3⟩, h4⟩, h5⟩, h6⟩ := h
    exact ⟨⟨⟨r, σ, h1, ⟨rfl, h3⟩, f', g', by rw [← h2]; exact h4⟩, h5⟩, h6⟩
theorem gk_asg (vm : Vm) (c : ClassId) : vm.assignable c c = true := by
  show vm.assignableAux (255 + 1) c c = true
  rw [Vm.assignableAux, Bool.or_eq_true]
  exact Or.inl (beq_self_eq_true c)
section MKA
variable {p : Program} {l : Launch} {e : Env} {R : Room} {s : State} {m : MethodId} {args : Array Value} {below : List Frame} {meth : Method} {c : Code} {H : Heap} {locs : List Loc} {cells slots : Nat} {Q : State → Prop}
variable {D : va_G} {cI cZ cG cL : ClassId} {am : Nat → Nat} {σ : gk_C} {cc : ByteArray} {pc nL : Nat} {ls : Array Slot} {rest st0 : List Value}
/-- a new row of rows, all null -/
theorem mk_newg {A : Nat → Prop} {H0 : Heap} {own : String} {index : Nat} (hexec : p.tables.exec = Jvm.exec) (hb : c.code = cc) (hown : s.vm.findClass own = some m.cls) (hclink : (Cond.classLink own index "[I").before args s = true) (hK : gk_K D cI cZ cG cL s) (hlt : ∀ k, k ∈ 38 :: mk_ars → am k < H.size) (hS : va_S A H0 H locs) {n : Int32} (hn : ¬ n < 0) (hN : n.toNatClampNeg = 12) (hf : cells + 1 ≤ R.cells ∧ slots + 12 ≤ R.slots) (hdg : decode cc pc = .ok (.anewarray index, 3))
    (kk : ∀ (q : Nat) (H1 : Heap), va_at D vwCl (q, .inl (cG, (12, .inr (.inr (.inr (.inr (fun _ => none))))))) H1 → (∀ k, k ∈ 38 :: mk_ars → q ≠ am k) → q = H.size → H0.size ≤ q → (∀ z : Nat, z < H.size → H1[z]? = H[z]?) → va_S A H0 H1 locs → W p l e R s m args below meth c H1 locs (cells + 1) (slots + 12) Q (F0 m (pc + 3) ls (.ref q :: rest))) : W p l e R s m args below meth c H locs cells slots Q (F0 m pc ls (.int n :: rest)) := by
  refine W.anewA (t := .int) hexec hb hown hclink hK.2.2 rfl hdg rfl hn (by rw [hN]; decide) hf.1 (by rw [hN]; exact hf.2) fun cA kA comp f1 f2 f3 f4 => ?_
  rw [hN]
  have hcA : cA = cG := by
    have h2 := (hK.1.2 2 (cG, .array .int) rfl).2
    have h3 : s.vm.findClass ("[" ++ (FieldType.array .int).toString) = some cG := h2
    exact Option.some.inj (f1.symm.trans h3)
  subst hcA
  have e1 : (H.push ({ cls := cA, slots := Array.replicate 12 .null, vm := .none } : Cell))[H.size]? = some (vp_cell cA (12, .inr (.inr (.inr (.inr (fun _ => none)))))) := by
    rw [Array.getElem?_push_size, vp_cell_q]
    congr 1
  have e2 : ∀ z : Nat, z < H.size → (H.push ({ cls := cA, slots := Array.replicate 12 .null, vm := .none } : Cell))[z]? = H[z]? := fun z hz => by
    rw [Array.getElem?_push_lt hz, Array.getElem?_eq_getElem hz]
  exact kk H.size _ e1 (fun k hk => Nat.ne_of_gt (hlt k hk)) rfl hS.1 e2 ⟨Nat.le_trans hS.1 (by rw [Array.size_push]; omega), fun q h1 h2 => (e2 q (Nat.lt_of_lt_of_le h1 hS.1)).trans (hS.2.1 q h1 h2), hS.2.2⟩
/-- a row is put into a row of rows -/
theorem mk_astg {A : Nat → Prop} {H0 : Heap} (hexec : p.tables.exec = Jvm.exec) (hb : c.code = cc) (hK : gk_K D cI cZ cG cL s) (hS : va_S A H0 H locs) {a v : Nat} (hAa : A a) {g : Nat → Option Nat} {f : Nat → Int32} {n : Nat} (h : va_at D vwCl (a, .inl (cG, (12, .inr (.inr (.inr (.inr g)))))) H) (hv : va_at D vwCl (v, .inl (cI, (n, .inl f))) H) {i : Int32} (hin : vp_in i 12) (hdg : decode cc pc = .ok (.aastore, 1))
    (kk : ∀ (H1 : Heap) (locs1 : List Loc), va_at D vwCl (a, .inl (cG, (12, .inr (.inr (.inr (.inr (va_up g i.toNatClampNeg (some v)))))))) H1 → (∀ q, q ≠ a → H1[q]? = H[q]?) → H1.size = H.size → va_S A H0 H1 locs1 → W p l e R s m args below meth c H1 locs1 cells slots Q (F0 m (pc + 1) ls rest)) : W p l e R s m args below meth c H locs cells slots Q (F0 m pc ls (.ref v :: .int i :: .ref a :: rest)) := by
  have hlt : i.toNatClampNeg < 12 := Nat.not_le.mp fun q => hin (Or.inr q)
  have h0 : ¬ i < 0 := fun q => hin (Or.inl q)
  obtain ⟨comp, cG', kG, h1, h2, h3, h4, h5⟩ := arrayOverA_spec hK.2.2
  have e5 : s.vm.findClass ("[" ++ (FieldType.array .int).toString) = some cG := (hK.1.2 2 (cG, .array .int) rfl).2
  cases Option.some.inj (h5.symm.trans e5)
  have e6 : s.vm.findClass ("[" ++ FieldType.int.toString) = some cI := (hK.1.2 0 (cI, .int) rfl).2
  have e7 : comp = cI := Option.some.inj (h1.symm.trans e6)
  subst e7
  obtain ⟨kI, hkI, -⟩ := Vm.findClass_spec e6
  refine W.aast hexec hb h (fun q h => by cases h) (fun h => by cases h) h3 h4 rfl hkI ⟨h0, by show _ < (arrV _ _ _).slots.size; rw [arrV_size]; exact hlt⟩ hv (fun q h => by cases h) hkI (gk_asg _ _) rfl rfl hdg fun H1 e z oq => ?_
  refine kk H1 _ ?_ oq z (hS.put z oq hAa)
  show H1[a]? = some (vp_cell _ _)
  rw [e]
  rw [vp_cell_q, vp_cell_q, arrV_store]
  congr 2
  funext q
  by_cases hq : q = i.toNatClampNeg
  · subst hq
    simp [updV, va_up, va_rf]
  · simp [updV, va_up, hq]
end MKA
def wL_X9_allNears_8 (σ : gk_C) (Q : (Nat → Option (Nat → Int32)) → Prop) : Nat → Int32 → (Nat → Option (Nat → Int32)) → Prop
  | 0 => fun _ _ => False
  | n + 1 => fun x2 N => ((σ.2 3 ≤ x2) → Q N) ∧ ((¬ σ.2 3 ≤ x2) → vp_in x2 12 ∧ w_X9_nears σ (σ.1 4 x2.toNatClampNeg) (fun f => wL_X9_allNears_8 σ Q n (x2 + 1) (va_up N x2.toNatClampNeg (some f))))
def w_X9_allNears (σ : gk_C) (Q : (Nat → Option (Nat → Int32)) → Prop) : Prop := ∃ n, wL_X9_allNears_8 σ Q n 0 (fun _ => none)
abbrev rmX9_allNears : Room := { frames := 2, cells := 13, slots := 156, locals := 48 }
abbrev mk_QA (D : va_G) (cI cZ cG : ClassId) (am : Nat → Nat) (σ : gk_C) (Q : (Nat → Option (Nat → Int32)) → Prop) (sz : Nat) : Array Value → State → Outcome → State → Prop := va_Qr (fun (u : gk_C × (Nat → Option (Nat → Int32))) => u.1 = σ ∧ Q u.2) (fun u a t => mk_V D cI cZ am u.1 t.heap ∧ mk_N D cI cG am a t.heap.size u.2 t.heap ∧ sz ≤ a) (mk_A am sz)
set_option maxHeartbeats 4000000 in
set_option maxRecDepth 100000 in
theorem c_X9_allNears (l : Launch) (D : va_G) (cI cZ cG cL : ClassId) (am : Nat → Nat) {σ : gk_C} {Q : (Nat → Option (Nat → Int32)) → Prop} {sz : Nat} (hw : w_X9_allNears σ Q) : Met l yX9_allNears wsX9_allNears rmX9_allNears (mk_Pc (mk_V D cI cZ am) D cI cZ cG cL [.ref (am 38)] sz σ (fun _ => True)) (mk_QA D cI cZ cG am σ Q sz) 13 156 (mk_A am sz) := by
  refine Met.ofW (cc := cX9_allNears) (maxL := 3) (ret := (some (.array (.array .int)))) (by decide) rfl ?_
  intro p e s m args below meth c s₁ B hml0 hv0
  obtain ⟨rfl, hsz, hW, hK, hX⟩ := hv0
  subst hsz
  have C0 : gk_F p s m ([.ref (am 38)] : List Value).toArray meth c cX9_allNears 3 (some (.array (.array .int))) RX9 := ⟨B.exec, B.bytes, hml0, findClass_of_methodNamed B.named, fun w hw => atoms_spec (ws := wsX9_allNears) B.pre w (List.mem_cons_of_mem _ hw), B.returns, B.notSynchronized⟩
  obtain ⟨hx, hb, hml, hown, hts, hr, hlocks⟩ := id C0
  have hS : va_S (mk_A am s.heap.size) s.heap s.heap [] := va_S.rf
  have hl := lv_entry ([.ref (am 38)]) (n := 3) (Nat.le_of_ble_eq_true rfl)
  rw [lg_entry_eq]
  generalize (lg_sl ([.ref (am 38)]) ++ List.replicate (3 - (lg_sl ([.ref (am 38)])).length) Slot.unset).toArray = ls at hl ⊢
  have hl : lv_has ls 3 [(0, .ref (am 38))] := hl
  show W p l e rmX9_allNears s m _ below meth c s.heap [] 0 0 _ _
  have loop : ∀ (n i : Nat) (N : Nat → Option (Nat → Int32)), i ≤ 12 → wL_X9_allNears_8 σ Q n (nI i) N → ∀ (H : Heap) (locs : List Loc), mk_V D cI cZ am σ H → va_S (mk_A am s.heap.size) s.heap H locs → ∀ (q : Nat), s.heap.size ≤ q → mk_N D cI cG am q H.size N H → ∀ (ls : Array Slot), lv_has ls 3 [(0, .ref (am 38)), (1, .ref q), (2, .int (nI i))] →
      W p l e rmX9_allNears s m (([.ref (am 38)] : List Value).toArray) below meth c H locs (1 + i) (12 + 12 * i) (MQ below (mk_QA D cI cZ cG am σ Q s.heap.size) (([.ref (am 38)] : List Value).toArray) s 13 156 (mk_A am s.heap.size)) (F0 m 8 ls []) := by
    intro n
    induction n with
    | zero => exact fun _ _ _ hw => False.elim hw
    | succ n ih =>
      intro i N hi hw H locs hW hS q hg hd ls hl
      refine lv_iload_n hx hb dX9_allNears_8 rfl (lv_at hl 2 rfl) ?_
      refine lv_aload_n hx hb dX9_allNears_9 rfl (lv_at hl 0 rfl) ?_
      refine gk_get hx hb hts iwX9 hown hK.1 (mk_obj hW) rfl 3 (by decide) (hts _ fl_X9_105) (fun _ h9 => h9) rfl dX9_allNears_10 ?_
      refine lv_icmp_ge (tgt := 35) hx hb dX9_allNears_13 (by decide) (fun c13 => ?_) (fun c13 => ?_)
      · have hw := hw.1 c13
        refine lv_aload_n hx hb dX9_allNears_35 rfl (lv_at hl 1 rfl) ?_
        refine W.widen (k := 13) (n := 156) (by omega) (by omega) ?_
        exact mk_reta (σ, N) C0 (Or.inr ⟨_, rfl⟩) ⟨rfl, hw⟩ (fun t ht => by subst ht; exact ⟨hW, hd, hg⟩) hS dX9_allNears_36
      · obtain ⟨hin, hw⟩ := hw.2 c13
        have hi12 : i < 12 := by
          have h1 : (nI i).toNatClampNeg < 12 := Nat.not_le.mp fun q => hin (Or.inr q)
          rwa [nI_clamp (by omega)] at h1
        refine lv_aload_n hx hb dX9_allNears_16 rfl (lv_at hl 1 rfl) ?_
        refine lv_iload_n hx hb dX9_allNears_17 rfl (lv_at hl 2 rfl) ?_
        refine lv_aload_n hx hb dX9_allNears_18 rfl (lv_at hl 0 rfl) ?_
        refine lv_aload_n hx hb dX9_allNears_19 rfl (lv_at hl 0 rfl) ?_
        refine gk_get hx hb hts iwX9 hown hK.1 (mk_obj hW) rfl 4 (by decide) (hts _ fl_X9_9) (fun _ h9 => h9) rfl dX9_allNears_20 ?_
        refine lv_iload_n hx hb dX9_allNears_23 rfl (lv_at hl 2 rfl) ?_
        refine gk_iald hx hb hK.1 0 (mk_arr hW (k := 4) (by decide) (by decide) (by decide)) rfl hin dX9_allNears_24 ?_
        refine mk_callVa ⟨hx, hb, hml, hown, hts⟩ (c_X9_nears l D cI cZ cG cL am hw) (cwV 1 hts (gk_gV ml_X9_155 im_X9_nears se_X9_nears in_X9 co_X9_nears) rfl rfl rfl (by decide +kernel) ⟨Nat.le_of_ble_eq_true rfl, Nat.le_of_ble_eq_true rfl⟩) (gk_recv hK.1 (mk_obj hW) rfl) hW hK trivial hS rfl hl.1 (rest := [.int (nI i), .ref q]) rfl (lv_room (Nat.le_of_ble_eq_true rfl)) dX9_allNears_25 ⟨by show 1 + i + 1 ≤ 13; omega, by show 12 + 12 * i + 12 ≤ 156; omega⟩ (fun f q2 H locs hw hW hd2 hb0 hg2 _ hk hS => ?_)
        have hlq : q < q2 := Nat.lt_of_lt_of_le hd.lt hb0
        have hd := hd.kept hk
        obtain ⟨n1, n2, g, h1, h2⟩ := hd
        refine mk_astg hx hb hK hS (Or.inr hg) h1 hd2.1 hin dX9_allNears_28 (fun H locs h3 oq hz hS => ?_)
        have hW := hW.keptN n1 oq
        have hd : mk_N D cI cG am q H.size (va_up N (nI i).toNatClampNeg (some f)) H := by
          refine ⟨n1, h3.lt, _, h3, fun j f1 hj => ?_⟩
          by_cases hji : j = (nI i).toNatClampNeg
          · subst hji
            rw [show va_up N (nI i).toNatClampNeg (some f) (nI i).toNatClampNeg = some f by simp [va_up]] at hj
            cases hj
            exact ⟨q2, by simp [va_up], hd2.oq oq (by omega), hlq, by rw [hz]; exact hd2.1.lt⟩
          · rw [va_up_ne _ _ hji] at hj
            obtain ⟨a, e1, e2, e3, e4⟩ := h2 j f1 hj
            exact ⟨a, by rw [va_up_ne _ _ hji]; exact e1, e2.oq oq (Nat.ne_of_gt e3), e3, by rw [hz]; exact e2.1.lt⟩
        refine lv_iinc (v := nI (i + 1)) (lv' := [(2, .int (nI (i + 1))), (0, .ref (am 38)), (1, .ref q)]) hx hb dX9_allNears_29 hl (k := 2) rfl (nI_1 i) (by decide) rfl (fun ls hl => ?_)
        refine lv_goto (tgt := 8) hx hb dX9_allNears_32 (by decide) ?_
        have hw2 : wL_X9_allNears_8 σ Q n (nI (i + 1)) (va_up N (nI i).toNatClampNeg (some f)) := by rw [← nI_1 i]; exact hw
        refine W.widen (k := 1 + (i + 1)) (n := 12 + 12 * (i + 1)) (by omega) (by omega) ?_
        exact ih (i + 1) _ (by omega) hw2 _ _ hW hS q hg hd _ (lv_sub hl [1, 2, 0] rfl)
  obtain ⟨n, hw⟩ := hw
  refine lv_bipush (v := 12) hx hb dX9_allNears_0 (by decide) ?_
  refine mk_newg hx hb hown (hts _ cl_X9_229) hK (fun k hk => hW.lt hk) hS (by decide) (by decide) ⟨Nat.le_of_ble_eq_true rfl, Nat.le_of_ble_eq_true rfl⟩ dX9_allNears_2 (fun q H h1 hne hq hg hk hS => ?_)
  have hW := hW.keptAll hk
  refine lv_astore_n (lv' := [(1, .ref q), (0, .ref (am 38))]) hx hb dX9_allNears_5 rfl hl (by decide) rfl (fun ls hl => ?_)
  refine lv_iconst (v := 0) hx hb dX9_allNears_6 (by decide) ?_
  refine lv_istore_n (lv' := [(2, .int 0), (1, .ref q), (0, .ref (am 38))]) hx hb dX9_allNears_7 rfl hl (by decide) rfl (fun ls hl => ?_)
  have hd : mk_N D cI cG am q H.size (fun _ => none) H := ⟨hne, h1.lt, _, h1, fun j f hj => by cases hj⟩
  have hw2 : wL_X9_allNears_8 σ Q n (nI 0) (fun _ => none) := by rw [nI_0]; exact hw
  refine W.widen (k := 1 + 0) (n := 12 + 12 * 0) (by omega) (by omega) ?_
  exact loop n 0 _ (by omega) hw2 _ _ hW hS q hg hd _ (lv_sub hl [2, 1, 0] rfl)
/-! differences(int[], int[]) -/
def wL_X9_differences_4 (n1 n2 : Nat) (f1 f2 : Nat → Int32) (Q : Int32 → Prop) : Nat → Int32 → Int32 → Prop
  | 0 => fun _ _ => False
  | n + 1 => fun x2 x3 => ((nI n1 ≤ x3) → Q x2) ∧ ((¬ nI n1 ≤ x3) → vp_in x3 n1 ∧ vp_in x3 n2 ∧ wL_X9_differences_4 n1 n2 f1 f2 Q n (x2 + (if f1 x3.toNatClampNeg = f2 x3.toNatClampNeg then 0 else 1)) (x3 + 1))
def w_X9_differences (n1 n2 : Nat) (f1 f2 : Nat → Int32) (Q : Int32 → Prop) : Prop := ∃ n, wL_X9_differences_4 n1 n2 f1 f2 Q n 0 0
abbrev rmX9_differences : Room := { frames := 0, cells := 0, slots := 0, locals := 0 }
abbrev mk_PD (D : va_G) (cI : ClassId) (q1 q2 n1 n2 : Nat) (f1 f2 : Nat → Int32) : Array Value → State → Prop := va_Pc [.ref q1, .ref q2] (fun U => va_at D vwCl (q1, .inl (cI, (n1, .inl f1))) U.heap ∧ va_at D vwCl (q2, .inl (cI, (n2, .inl f2))) U.heap ∧ va_K D vwCl [(cI, .int)] U)
set_option maxHeartbeats 4000000 in
set_option maxRecDepth 100000 in
theorem c_X9_differences (l : Launch) (D : va_G) {cI : ClassId} {q1 q2 n1 n2 : Nat} {f1 f2 : Nat → Int32} {Q : Int32 → Prop} (hw : w_X9_differences n1 n2 f1 f2 Q) : Met l yX9_differences wsX9_differences rmX9_differences (mk_PD D cI q1 q2 n1 n2 f1 f2) (va_Qi (fun r _ => Q r) gk_Bn gk_An) 0 0 gk_An := by
  refine Met.ofW (cc := cX9_differences) (maxL := 4) (ret := (some .int)) (by decide) rfl ?_
  intro p e s m args below meth c s₁ B hml0 hv0
  obtain ⟨rfl, h1, h2, hK⟩ := hv0
  have C0 : gk_F p s m ([.ref q1, .ref q2] : List Value).toArray meth c cX9_differences 4 (some .int) RX9 := ⟨B.exec, B.bytes, hml0, findClass_of_methodNamed B.named, fun w hw => atoms_spec (ws := wsX9_differences) B.pre w (List.mem_cons_of_mem _ hw), B.returns, B.notSynchronized⟩
  obtain ⟨hx, hb, hml, hown, hts, hr, hlocks⟩ := id C0
  have hS : va_S gk_An s.heap s.heap [] := va_S.rf
  have hl := lv_entry ([.ref q1, .ref q2]) (n := 4) (Nat.le_of_ble_eq_true rfl)
  rw [lg_entry_eq]
  generalize (lg_sl ([.ref q1, .ref q2]) ++ List.replicate (4 - (lg_sl ([.ref q1, .ref q2])).length) Slot.unset).toArray = ls at hl ⊢
  have hl : lv_has ls 4 [(0, .ref q1), (1, .ref q2)] := hl
  show W p l e rmX9_differences s m _ below meth c s.heap [] 0 0 _ _
  have loop : ∀ (n : Nat) (x2 x3 : Int32), wL_X9_differences_4 n1 n2 f1 f2 Q n x2 x3 → ∀ (ls : Array Slot), lv_has ls 4 [(0, .ref q1), (1, .ref q2), (2, .int x2), (3, .int x3)] →
      W p l e rmX9_differences s m (([.ref q1, .ref q2] : List Value).toArray) below meth c s.heap [] 0 0 (MQ below (va_Qi (fun r _ => Q r) gk_Bn gk_An) (([.ref q1, .ref q2] : List Value).toArray) s 0 0 gk_An) (F0 m 4 ls []) := by
    intro n
    induction n with
    | zero => exact fun _ _ hw => False.elim hw
    | succ n ih =>
      intro x2 x3 hw ls hl
      refine lv_iload_n hx hb dX9_differences_4 rfl (lv_at hl 3 rfl) ?_
      refine lv_aload_n hx hb dX9_differences_5 rfl (lv_at hl 0 rfl) ?_
      refine gk_alen hx hb hK 0 h1 rfl (v := nI n1) rfl dX9_differences_6 ?_
      refine lv_icmp_ge (tgt := 33) hx hb dX9_differences_7 (by decide) (fun c7 => ?_) (fun c7 => ?_)
      · have hw := hw.1 c7
        refine lv_iload_n hx hb dX9_differences_33 rfl (lv_at hl 2 rfl) ?_
        exact gk_retn C0 hw hS (fun _ h => h) dX9_differences_34
      · obtain ⟨hin1, hin2, hw⟩ := hw.2 c7
        refine lv_iload_n hx hb dX9_differences_10 rfl (lv_at hl 2 rfl) ?_
        refine lv_aload_n hx hb dX9_differences_11 rfl (lv_at hl 0 rfl) ?_
        refine lv_iload_n hx hb dX9_differences_12 rfl (lv_at hl 3 rfl) ?_
        refine gk_iald hx hb hK 0 h1 rfl hin1 dX9_differences_13 ?_
        refine lv_aload_n hx hb dX9_differences_14 rfl (lv_at hl 1 rfl) ?_
        refine lv_iload_n hx hb dX9_differences_15 rfl (lv_at hl 3 rfl) ?_
        refine gk_iald hx hb hK 0 h2 rfl hin2 dX9_differences_16 ?_
        have tail : ∀ d : Int32, d = (if f1 x3.toNatClampNeg = f2 x3.toNatClampNeg then 0 else 1) → W p l e rmX9_differences s m (([.ref q1, .ref q2] : List Value).toArray) below meth c s.heap [] 0 0 (MQ below (va_Qi (fun r _ => Q r) gk_Bn gk_An) (([.ref q1, .ref q2] : List Value).toArray) s 0 0 gk_An) (F0 m 25 ls [.int d, .int x2]) := by
          intro d hd
          rw [← hd] at hw
          refine lv_iadd hx hb dX9_differences_25 ?_
          refine lv_istore_n (lv' := [(2, .int (x2 + d)), (0, .ref q1), (1, .ref q2), (3, .int x3)]) hx hb dX9_differences_26 rfl hl (by decide) rfl (fun ls hl => ?_)
          refine lv_iinc (v := x3 + 1) (lv' := [(3, .int (x3 + 1)), (2, .int (x2 + d)), (0, .ref q1), (1, .ref q2)]) hx hb dX9_differences_27 hl (k := 3) rfl rfl (by decide) rfl (fun ls hl => ?_)
          refine lv_goto (tgt := 4) hx hb dX9_differences_30 (by decide) ?_
          exact ih _ _ hw _ (lv_sub hl [2, 3, 1, 0] rfl)
        refine lv_icmp_ne (tgt := 24) hx hb dX9_differences_17 (by decide) (fun c17 => ?_) (fun c17 => ?_)
        · refine lv_iconst (v := 1) hx hb dX9_differences_24 (by decide) ?_
          exact tail 1 (by rw [if_neg c17])
        · refine lv_iconst (v := 0) hx hb dX9_differences_20 (by decide) ?_
          refine lv_goto (tgt := 25) hx hb dX9_differences_21 (by decide) ?_
          exact tail 0 (by rw [if_pos c17])
  obtain ⟨n, hw⟩ := hw
  refine lv_iconst (v := 0) hx hb dX9_differences_0 (by decide) ?_
  refine lv_istore_n (lv' := [(2, .int 0), (0, .ref q1), (1, .ref q2)]) hx hb dX9_differences_1 rfl hl (by decide) rfl (fun ls hl => ?_)
  refine lv_iconst (v := 0) hx hb dX9_differences_2 (by decide) ?_
  refine lv_istore_n (lv' := [(3, .int 0), (2, .int 0), (0, .ref q1), (1, .ref q2)]) hx hb dX9_differences_3 rfl hl (by decide) rfl (fun ls hl => ?_)
  exact loop n 0 0 hw _ (lv_sub hl [2, 3, 1, 0] rfl)
section MKA2
variable {p : Program} {l : Launch} {e : Env} {R : Room} {s : State} {m : MethodId} {args : Array Value} {below : List Frame} {meth : Method} {c : Code} {H : Heap} {locs : List Loc} {cells slots : Nat} {Q : State → Prop}
variable {D : va_G} {cI cZ cG cL : ClassId} {cc : ByteArray} {pc nL : Nat} {ls : Array Slot} {rest : List Value}
theorem mk_callA2 {A : Nat → Prop} {y : MethodName} {ws : List Cond} {rm : Room} {own : String} {index maxL : Nat} {bytes : ByteArray} {ret : Option FieldType} {Ts : List Cond} {q1 q2 n1 n2 : Nat} {f1 f2 : Nat → Int32} {Qr : Int32 → Prop} (C0 : CallFix p m c cc nL s args Ts own) (hM : Met l y ws rm (mk_PD D cI q1 q2 n1 n2 f1 f2) (va_Qi (fun r _ => Qr r) gk_Bn gk_An) 0 0 gk_An) (cw : CallB R s args own index y bytes maxL ret ws rm 0 0 2 ∧ (Cond.static y).before args s = true)
    (h1 : va_at D vwCl (q1, .inl (cI, (n1, .inl f1))) H) (h2 : va_at D vwCl (q2, .inl (cI, (n2, .inl f2))) H) (hK : gk_K D cI cZ cG cL s) (hS : va_S A s.heap H locs) (hsz : ls.size = nL) (hrm : 2 * (F0 m pc ls (.ref q2 :: .ref q1 :: rest)).monitorRoom + (rest.map fun v => v.category).sum ≤ 8) (hdg : decode cc pc = .ok (.invokestatic index, 3)) (hf : cells ≤ R.cells ∧ slots ≤ R.slots)
    (kk : ∀ (r : Int32) (H1 : Heap) (locs1 : List Loc), Qr r → H.size ≤ H1.size → (∀ q : Nat, q < H.size → H1[q]? = H[q]?) → va_S A s.heap H1 locs1 → W p l e R s m args below meth c H1 locs1 cells slots Q (F0 m (pc + 3) ls (.int r :: rest))) : W p l e R s m args below meth c H locs cells slots Q (F0 m pc ls (.ref q2 :: .ref q1 :: rest)) :=
  va_calli (va_runS (As := [.ref q1, .ref q2]) (rest := rest) C0 hM cw ⟨fun a U g mk q => ⟨q.1, q.2.1, q.2.2.1, va_K.moved (u := U) (U := U.calling g mk a) (Vm.Alike.refl U.vm) q.2.2.2⟩, fun U hU hW' => ⟨rfl, by rw [hU]; exact h1, by rw [hU]; exact h2, va_K.moved hW'.alike (hK.1.sub [0] rfl)⟩⟩ rfl rfl hsz rfl hrm hdg hf) hS (fun q _ h => False.elim h) (fun q h => False.elim h) (fun r u t H1 locs1 ht _ hw hB hz hk hS1 => kk r H1 locs1 hw hz (fun q hq => hk q hq id) hS1)
end MKA2
section MKA3
variable {p : Program} {l : Launch} {e : Env} {R : Room} {s : State} {m : MethodId} {args : Array Value} {below : List Frame} {meth : Method} {c : Code} {H : Heap} {locs : List Loc} {cells slots : Nat} {Q : State → Prop}
variable {D : va_G} {cI cZ cG cL : ClassId} {am : Nat → Nat} {cc : ByteArray} {pc : Nat} {ls : Array Slot} {rest : List Value}
theorem mk_astN {A : Nat → Prop} {H0 : Heap} (hexec : p.tables.exec = Jvm.exec) (hb : c.code = cc) (hK : gk_K D cI cZ cG cL s) (hS : va_S A H0 H locs) {q B v : Nat} (hAa : A q) {N : Nat → Option (Nat → Int32)} {f : Nat → Int32} (h : mk_N D cI cG am q B N H) (hv : mk_D D cI am v 12 f H) (hne : q < v) {i : Int32} (hin : vp_in i 12) (hdg : decode cc pc = .ok (.aastore, 1))
    (kk : ∀ (H1 : Heap) (locs1 : List Loc), mk_N D cI cG am q H1.size (va_up N i.toNatClampNeg (some f)) H1 → (∀ z, z ≠ q → H1[z]? = H[z]?) → va_S A H0 H1 locs1 → W p l e R s m args below meth c H1 locs1 cells slots Q (F0 m (pc + 1) ls rest)) : W p l e R s m args below meth c H locs cells slots Q (F0 m pc ls (.ref v :: .int i :: .ref q :: rest)) := by
  obtain ⟨n1, n2, g, h1, h2⟩ := h
  refine mk_astg hexec hb hK hS hAa h1 hv.1 hin hdg (fun H1 locs1 h3 oq hz hS1 => kk H1 locs1 ⟨n1, h3.lt, _, h3, fun j f1 hj => ?_⟩ oq hS1)
  by_cases hji : j = i.toNatClampNeg
  · subst hji
    rw [show va_up N i.toNatClampNeg (some f) i.toNatClampNeg = some f by simp [va_up]] at hj
    cases hj
    exact ⟨v, by simp [va_up], hv.oq oq (Nat.ne_of_gt hne), hne, by rw [hz]; exact hv.1.lt⟩
  · rw [va_up_ne _ _ hji] at hj
    obtain ⟨a, e1, e2, e3, e4⟩ := h2 j f1 hj
    exact ⟨a, by rw [va_up_ne _ _ hji]; exact e1, e2.oq oq (Nat.ne_of_gt e3), e3, by rw [hz]; exact e2.1.lt⟩
end MKA3
