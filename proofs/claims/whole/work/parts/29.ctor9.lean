/-! ===== the reference's constructor; the gate's world out of its constructor ===== -/
def mk_off : List Nat := [0, 0, 0, 0, 0, 1, 2, 0, 3, 0, 4, 0, 5, 6, 7, 8, 0, 9, 10, 11, 12, 13, 14, 15, 16, 17, 0, 18, 19, 20, 21, 22, 23, 24, 25, 0, 26, 27]
def mk_am (a sz k : Nat) : Nat := if k = 38 then a else sz + mk_off.getD k 0
def mk_S0 : Nat → Int32 | 11 => 1 | 35 => (-1) | _ => 0
def mk_1 : gk_C := (fun _ _ => 0, mk_S0)
def mk_2 (i : Nat) : gk_C := gk_r (gk_r mk_1 12 (upd (fun _ => 0) 0 (-1))) 14 (gk_fill i (-1) (fun _ => 0))
def mk_0 : gk_C := mk_2 24
theorem mk_offI : ∀ i ∈ mk_ars, ∀ j ∈ mk_ars, mk_off.getD i 0 = mk_off.getD j 0 → i = j := by decide +kernel
theorem mk_amI {a sz : Nat} (h : a < sz) : mk_I (mk_am a sz) := by
  intro i j hi hj e
  unfold mk_am at e
  by_cases h1 : i = 38
  · by_cases h2 : j = 38
    · rw [h1, h2]
    · rw [if_pos h1, if_neg h2] at e; omega
  · by_cases h2 : j = 38
    · rw [if_neg h1, if_pos h2] at e; omega
    · rw [if_neg h1, if_neg h2] at e
      have hi2 : i ∈ mk_ars := (List.mem_cons.mp hi).resolve_left h1
      have hj2 : j ∈ mk_ars := (List.mem_cons.mp hj).resolve_left h2
      exact mk_offI i hi2 j hj2 (by omega)
def mk_ps (D : va_G) (cI cZ : ClassId) (b n : Nat) (H : Heap) : Prop := ∀ i, i < n → va_at D vwCl (b + i, .inl (mk_ty cI cZ (mk_ars.getD i 0), (mk_ml (mk_ars.getD i 0), .inl (fun _ => 0)))) H
theorem mk_ps.kept {D : va_G} {cI cZ : ClassId} {b n : Nat} {H H1 : Heap} (h : mk_ps D cI cZ b n H) (hq : ∀ z, b ≤ z → z < b + n → H1[z]? = H[z]?) : mk_ps D cI cZ b n H1 := fun i hi => (h i hi).kept (hq _ (Nat.le_add_right _ _) (Nat.add_lt_add_left hi _))
theorem mk_ps.push {D : va_G} {cI cZ : ClassId} {b n : Nat} {H : Heap} (h : mk_ps D cI cZ b n H) (h1 : va_at D vwCl (b + n, .inl (mk_ty cI cZ (mk_ars.getD n 0), (mk_ml (mk_ars.getD n 0), .inl (fun _ => 0)))) H) : mk_ps D cI cZ b (n + 1) H := fun i hi => by
  rcases Nat.lt_or_ge i n with h2 | h2
  · exact h i h2
  · obtain rfl : i = n := by omega
    exact h1
theorem mk_psOff : ∀ k ∈ mk_ars, mk_off.getD k 0 < 28 ∧ mk_ars.getD (mk_off.getD k 0) 0 = k ∧ k ≠ 38 := by decide +kernel
theorem gk_lz {P : Nat → Prop} : ∀ r, r < 0 → P r := fun r h => absurd h (Nat.not_lt_zero r)
theorem gk_ls {P : Nat → Prop} {n : Nat} (h : ∀ r, r < n → P r) (h1 : P n) : ∀ r, r < n + 1 → P r := fun r hr => by
  rcases Nat.lt_or_ge r n with h2 | h2
  · exact h r h2
  · obtain rfl : r = n := by omega
    exact h1
theorem ac_bool : Cond.arrayClass .boolean ∈ gk_BG := by decide +kernel
section GKN
variable {p : Program} {l : Launch} {e : Env} {R : Room} {s : State} {m : MethodId} {args : Array Value} {below : List Frame} {meth : Method} {c : Code} {H : Heap} {locs : List Loc} {cells slots : Nat} {Q : State → Prop}
variable {D : va_G} {cI cZ cG cL : ClassId} {cc : ByteArray} {pc a nL : Nat} {ls : Array Slot} {rest st0 : List Value} {A : Nat → Prop} {H0 : Heap} {tys : List (ClassId × FieldType)}
variable {y : MethodName} {ws : List Cond} {rm : Room} {own : String} {index n maxL mc ms N : Nat} {bytes : ByteArray} {Ts : List Cond} {b : Addr} {As : List Value}
/-- a new row of booleans -/
theorem gk_newz (hexec : p.tables.exec = Jvm.exec) (hb : c.code = cc) (harr : (Cond.arrayClass .boolean).before args s = true) (hK : gk_K D cI cZ cG cL s) (hS : va_S A H0 H locs) {n : Int32} {N' : Nat} (hn : ¬ n < 0) (hN : n.toNatClampNeg = N') (hby : N' * 1 ≤ 536870912) (hf : cells + 1 ≤ R.cells ∧ slots + N' ≤ R.slots) (hdg : decode cc pc = .ok (.newarray .boolean, 2))
    (kk : ∀ (q : Nat) (H1 : Heap), va_at D vwCl (q, .inl (cZ, (N', .inl (fun _ => 0)))) H1 → q = H.size → H1.size = H.size + 1 → (∀ z : Nat, z < H.size → H1[z]? = H[z]?) → va_S A H0 H1 locs → W p l e R s m args below meth c H1 locs (cells + 1) (slots + N') Q (F0 m (pc + 2) ls (.ref q :: rest))) : W p l e R s m args below meth c H locs cells slots Q (F0 m pc ls (.int n :: rest)) := by
  subst hN
  refine W.newa (atype := .boolean) hexec hb harr rfl hdg rfl hn hby hf.1 hf.2 fun cA kA comp f1 f2 f3 => ?_
  have hcA : cA = cZ := by
    have h2 := (hK.1.2 1 (cZ, .boolean) rfl).2
    have h3 : s.vm.findClass ("[" ++ FieldType.boolean.toString) = some cZ := h2
    exact Option.some.inj (f1.symm.trans h3)
  subst hcA
  have e1 : (H.push ({ cls := cA, slots := Array.replicate n.toNatClampNeg (defaultValue (newarray.typeOf .boolean)), vm := .none } : Cell))[H.size]? = some (vp_cell cA (n.toNatClampNeg, .inl (fun _ => 0))) := by
    rw [Array.getElem?_push_size, vp_cell_i]
    congr 1
    exact arrV_new cA _ _
  have e2 : ∀ z : Nat, z < H.size → (H.push ({ cls := cA, slots := Array.replicate n.toNatClampNeg (defaultValue (newarray.typeOf .boolean)), vm := .none } : Cell))[z]? = H[z]? := fun z hz => by
    rw [Array.getElem?_push_lt hz, Array.getElem?_eq_getElem hz]
  refine kk H.size _ e1 rfl (by rw [Array.size_push]) e2 ⟨Nat.le_trans hS.1 (by rw [Array.size_push]; omega), fun q h1 h2 => (e2 q (Nat.lt_of_lt_of_le h1 hS.1)).trans (hS.2.1 q h1 h2), hS.2.2⟩
end GKN
abbrev rmX9_init : Room := { frames := 1, cells := 28, slots := 940, locals := 12 }
set_option maxHeartbeats 4000000 in
set_option maxRecDepth 100000 in
theorem c_X9_init (l : Launch) (D : va_G) (cI cZ cG cL : ClassId) {a sz : Nat} : Met l yX9_init wsX9_init rmX9_init (gk_Pi D cI cZ cG cL [.ref a] a (.inr (9, [.int 0, .int 0, .int 0, .int 0, .null, .null, .null, .int 0, .null, .int 0, .null, .int 0, .null, .null, .null, .null, .int 0, .null, .null, .null, .null, .null, .null, .null, .null, .null, .int 0, .null, .null, .null, .null, .null, .null, .null, .null, .int 0, .null, .null])) sz) (gk_Qc (fun H => mk_W D cI cZ (mk_am a sz) mk_0 H) a sz 28) 28 940 (gk_cA a sz) := by
  refine Met.ofW (cc := cX9_init) (maxL := 2) (ret := none) (by decide) rfl ?_
  intro p e s m args below meth c s₁ B hml0 hv0
  obtain ⟨rfl, hsz, ho, hK⟩ := hv0
  subst hsz
  have C0 : gk_F p s m ([.ref a] : List Value).toArray meth c cX9_init 2 none RX9 := ⟨B.exec, B.bytes, hml0, findClass_of_methodNamed B.named, fun w hw => atoms_spec (ws := wsX9_init) B.pre w (List.mem_cons_of_mem _ hw), B.returns, B.notSynchronized⟩
  obtain ⟨hx, hb, hml, hown, hts, hr, hlocks⟩ := id C0
  have hin : meth.name = "<init>" := (name_of_methodNamed B.named B.method).1
  have ha0 : a < s.heap.size := ho.lt
  have hS : va_S (gk_cA a s.heap.size) s.heap s.heap [] := va_S.rf
  have hz : s.heap.size = s.heap.size + 0 := rfl
  have hl := lv_entry ([.ref a]) (n := 2) (Nat.le_of_ble_eq_true rfl)
  rw [lg_entry_eq]
  generalize (lg_sl ([.ref a]) ++ List.replicate (2 - (lg_sl ([.ref a])).length) Slot.unset).toArray = ls at hl ⊢
  have hl : lv_has ls 2 [(0, .ref a)] := hl
  show W p l e rmX9_init s m _ below meth c s.heap [] 0 0 _ _
  refine lv_aload_n hx hb dX9_init_0 rfl (lv_at hl 0 rfl) ?_
  refine W.objInit hx hb hown (hts _ oi_X9) (hts _ gk_oi1) (hts _ gk_oi2) rfl (by rw [hml]; exact hl.1) rfl dX9_init_1 (Nat.le_of_ble_eq_true rfl) (Nat.le_of_ble_eq_true rfl) ?_
  refine W.eq (g2 := F0 m 4 ls []) rfl ?_
  have hp : mk_ps D cI cZ s.heap.size 0 s.heap := gk_lz
  refine lv_aload_n hx hb dX9_init_4 rfl (lv_at hl 0 rfl) ?_
  refine lv_bipush (v := 12) hx hb dX9_init_5 (by decide) ?_
  refine gk_newi (N' := 12) hx hb (hts _ ac_int) hK hS (by decide) (by decide) (by decide) ⟨Nat.le_of_ble_eq_true rfl, Nat.le_of_ble_eq_true rfl⟩ dX9_init_7 (fun q H hn q1 z1 hk hS => ?_)
  obtain rfl : q = s.heap.size := by omega
  have hp := hp.kept (fun z h1 h2 => hk z (by omega))
  have ho := ho.kept (hk _ (by omega))
  have hz : H.size = s.heap.size + 1 := by omega
  refine gk_putF (ty := .array .int) (v := .ref s.heap.size) hx hb hts iwX9 tyX9 tyX9_ok nmX9 hown hK.1 hS (Or.inl rfl) ho rfl 4 (by decide) (hts _ fl_X9_9) (fun _ h9 => h9) rfl hin rfl (by decide +kernel) rfl rfl (Nat.le_of_ble_eq_true rfl) dX9_init_9 (fun H locs ho z1 oq hS => ?_)
  have ho : va_at D vwCl (a, .inr (9, [.int 0, .int 0, .int 0, .int 0, .ref s.heap.size, .null, .null, .int 0, .null, .int 0, .null, .int 0, .null, .null, .null, .null, .int 0, .null, .null, .null, .null, .null, .null, .null, .null, .null, .int 0, .null, .null, .null, .null, .null, .null, .null, .null, .int 0, .null, .null])) H := ho
  have hp := hp.kept (fun z h1 h2 => oq z (by omega))
  have hp := hp.push (hn.kept (oq _ (by omega)))
  have hz : H.size = s.heap.size + 1 := by omega
  refine lv_aload_n hx hb dX9_init_12 rfl (lv_at hl 0 rfl) ?_
  refine lv_bipush (v := 12) hx hb dX9_init_13 (by decide) ?_
  refine gk_newi (N' := 12) hx hb (hts _ ac_int) hK hS (by decide) (by decide) (by decide) ⟨Nat.le_of_ble_eq_true rfl, Nat.le_of_ble_eq_true rfl⟩ dX9_init_15 (fun q H hn q1 z1 hk hS => ?_)
  obtain rfl : q = (s.heap.size + 1) := by omega
  have hp := hp.kept (fun z h1 h2 => hk z (by omega))
  have ho := ho.kept (hk _ (by omega))
  have hz : H.size = s.heap.size + 2 := by omega
  refine gk_putF (ty := .array .int) (v := .ref (s.heap.size + 1)) hx hb hts iwX9 tyX9 tyX9_ok nmX9 hown hK.1 hS (Or.inl rfl) ho rfl 5 (by decide) (hts _ fl_X9_13) (fun _ h9 => h9) rfl hin rfl (by decide +kernel) rfl rfl (Nat.le_of_ble_eq_true rfl) dX9_init_17 (fun H locs ho z1 oq hS => ?_)
  have ho : va_at D vwCl (a, .inr (9, [.int 0, .int 0, .int 0, .int 0, .ref s.heap.size, .ref (s.heap.size + 1), .null, .int 0, .null, .int 0, .null, .int 0, .null, .null, .null, .null, .int 0, .null, .null, .null, .null, .null, .null, .null, .null, .null, .int 0, .null, .null, .null, .null, .null, .null, .null, .null, .int 0, .null, .null])) H := ho
  have hp := hp.kept (fun z h1 h2 => oq z (by omega))
  have hp := hp.push (hn.kept (oq _ (by omega)))
  have hz : H.size = s.heap.size + 2 := by omega
  refine lv_aload_n hx hb dX9_init_20 rfl (lv_at hl 0 rfl) ?_
  refine lv_bipush (v := 12) hx hb dX9_init_21 (by decide) ?_
  refine gk_newi (N' := 12) hx hb (hts _ ac_int) hK hS (by decide) (by decide) (by decide) ⟨Nat.le_of_ble_eq_true rfl, Nat.le_of_ble_eq_true rfl⟩ dX9_init_23 (fun q H hn q1 z1 hk hS => ?_)
  obtain rfl : q = (s.heap.size + 2) := by omega
  have hp := hp.kept (fun z h1 h2 => hk z (by omega))
  have ho := ho.kept (hk _ (by omega))
  have hz : H.size = s.heap.size + 3 := by omega
  refine gk_putF (ty := .array .int) (v := .ref (s.heap.size + 2)) hx hb hts iwX9 tyX9 tyX9_ok nmX9 hown hK.1 hS (Or.inl rfl) ho rfl 6 (by decide) (hts _ fl_X9_16) (fun _ h9 => h9) rfl hin rfl (by decide +kernel) rfl rfl (Nat.le_of_ble_eq_true rfl) dX9_init_25 (fun H locs ho z1 oq hS => ?_)
  have ho : va_at D vwCl (a, .inr (9, [.int 0, .int 0, .int 0, .int 0, .ref s.heap.size, .ref (s.heap.size + 1), .ref (s.heap.size + 2), .int 0, .null, .int 0, .null, .int 0, .null, .null, .null, .null, .int 0, .null, .null, .null, .null, .null, .null, .null, .null, .null, .int 0, .null, .null, .null, .null, .null, .null, .null, .null, .int 0, .null, .null])) H := ho
  have hp := hp.kept (fun z h1 h2 => oq z (by omega))
  have hp := hp.push (hn.kept (oq _ (by omega)))
  have hz : H.size = s.heap.size + 3 := by omega
  refine lv_aload_n hx hb dX9_init_28 rfl (lv_at hl 0 rfl) ?_
  refine lv_bipush (v := 12) hx hb dX9_init_29 (by decide) ?_
  refine gk_newi (N' := 12) hx hb (hts _ ac_int) hK hS (by decide) (by decide) (by decide) ⟨Nat.le_of_ble_eq_true rfl, Nat.le_of_ble_eq_true rfl⟩ dX9_init_31 (fun q H hn q1 z1 hk hS => ?_)
  obtain rfl : q = (s.heap.size + 3) := by omega
  have hp := hp.kept (fun z h1 h2 => hk z (by omega))
  have ho := ho.kept (hk _ (by omega))
  have hz : H.size = s.heap.size + 4 := by omega
  refine gk_putF (ty := .array .int) (v := .ref (s.heap.size + 3)) hx hb hts iwX9 tyX9 tyX9_ok nmX9 hown hK.1 hS (Or.inl rfl) ho rfl 8 (by decide) (hts _ fl_X9_19) (fun _ h9 => h9) rfl hin rfl (by decide +kernel) rfl rfl (Nat.le_of_ble_eq_true rfl) dX9_init_33 (fun H locs ho z1 oq hS => ?_)
  have ho : va_at D vwCl (a, .inr (9, [.int 0, .int 0, .int 0, .int 0, .ref s.heap.size, .ref (s.heap.size + 1), .ref (s.heap.size + 2), .int 0, .ref (s.heap.size + 3), .int 0, .null, .int 0, .null, .null, .null, .null, .int 0, .null, .null, .null, .null, .null, .null, .null, .null, .null, .int 0, .null, .null, .null, .null, .null, .null, .null, .null, .int 0, .null, .null])) H := ho
  have hp := hp.kept (fun z h1 h2 => oq z (by omega))
  have hp := hp.push (hn.kept (oq _ (by omega)))
  have hz : H.size = s.heap.size + 4 := by omega
  refine lv_aload_n hx hb dX9_init_36 rfl (lv_at hl 0 rfl) ?_
  refine lv_bipush (v := 10) hx hb dX9_init_37 (by decide) ?_
  refine gk_newi (N' := 10) hx hb (hts _ ac_int) hK hS (by decide) (by decide) (by decide) ⟨Nat.le_of_ble_eq_true rfl, Nat.le_of_ble_eq_true rfl⟩ dX9_init_39 (fun q H hn q1 z1 hk hS => ?_)
  obtain rfl : q = (s.heap.size + 4) := by omega
  have hp := hp.kept (fun z h1 h2 => hk z (by omega))
  have ho := ho.kept (hk _ (by omega))
  have hz : H.size = s.heap.size + 5 := by omega
  refine gk_putF (ty := .array .int) (v := .ref (s.heap.size + 4)) hx hb hts iwX9 tyX9 tyX9_ok nmX9 hown hK.1 hS (Or.inl rfl) ho rfl 10 (by decide) (hts _ fl_X9_22) (fun _ h9 => h9) rfl hin rfl (by decide +kernel) rfl rfl (Nat.le_of_ble_eq_true rfl) dX9_init_41 (fun H locs ho z1 oq hS => ?_)
  have ho : va_at D vwCl (a, .inr (9, [.int 0, .int 0, .int 0, .int 0, .ref s.heap.size, .ref (s.heap.size + 1), .ref (s.heap.size + 2), .int 0, .ref (s.heap.size + 3), .int 0, .ref (s.heap.size + 4), .int 0, .null, .null, .null, .null, .int 0, .null, .null, .null, .null, .null, .null, .null, .null, .null, .int 0, .null, .null, .null, .null, .null, .null, .null, .null, .int 0, .null, .null])) H := ho
  have hp := hp.kept (fun z h1 h2 => oq z (by omega))
  have hp := hp.push (hn.kept (oq _ (by omega)))
  have hz : H.size = s.heap.size + 5 := by omega
  refine lv_aload_n hx hb dX9_init_44 rfl (lv_at hl 0 rfl) ?_
  refine lv_iconst (v := 1) hx hb dX9_init_45 (by decide) ?_
  refine gk_putf (ty := .int) (v := .int 1) hx hb hts iwX9 tyX9 tyX9_ok nmX9 hown hK.1 hS (Or.inl rfl) ho rfl 11 (by decide) (hts _ fl_X9_25) (fun _ h9 => h9) rfl (by decide +kernel) rfl rfl (Nat.le_of_ble_eq_true rfl) dX9_init_46 (fun H locs ho z1 oq hS => ?_)
  have ho : va_at D vwCl (a, .inr (9, [.int 0, .int 0, .int 0, .int 0, .ref s.heap.size, .ref (s.heap.size + 1), .ref (s.heap.size + 2), .int 0, .ref (s.heap.size + 3), .int 0, .ref (s.heap.size + 4), .int 1, .null, .null, .null, .null, .int 0, .null, .null, .null, .null, .null, .null, .null, .null, .null, .int 0, .null, .null, .null, .null, .null, .null, .null, .null, .int 0, .null, .null])) H := ho
  have hp := hp.kept (fun z h1 h2 => oq z (by omega))
  have hz : H.size = s.heap.size + 5 := by omega
  refine lv_aload_n hx hb dX9_init_49 rfl (lv_at hl 0 rfl) ?_
  refine lv_bipush (v := 24) hx hb dX9_init_50 (by decide) ?_
  refine gk_newi (N' := 24) hx hb (hts _ ac_int) hK hS (by decide) (by decide) (by decide) ⟨Nat.le_of_ble_eq_true rfl, Nat.le_of_ble_eq_true rfl⟩ dX9_init_52 (fun q H hn q1 z1 hk hS => ?_)
  obtain rfl : q = (s.heap.size + 5) := by omega
  have hp := hp.kept (fun z h1 h2 => hk z (by omega))
  have ho := ho.kept (hk _ (by omega))
  have hz : H.size = s.heap.size + 6 := by omega
  refine gk_putF (ty := .array .int) (v := .ref (s.heap.size + 5)) hx hb hts iwX9 tyX9 tyX9_ok nmX9 hown hK.1 hS (Or.inl rfl) ho rfl 12 (by decide) (hts _ fl_X9_29) (fun _ h9 => h9) rfl hin rfl (by decide +kernel) rfl rfl (Nat.le_of_ble_eq_true rfl) dX9_init_54 (fun H locs ho z1 oq hS => ?_)
  have ho : va_at D vwCl (a, .inr (9, [.int 0, .int 0, .int 0, .int 0, .ref s.heap.size, .ref (s.heap.size + 1), .ref (s.heap.size + 2), .int 0, .ref (s.heap.size + 3), .int 0, .ref (s.heap.size + 4), .int 1, .ref (s.heap.size + 5), .null, .null, .null, .int 0, .null, .null, .null, .null, .null, .null, .null, .null, .null, .int 0, .null, .null, .null, .null, .null, .null, .null, .null, .int 0, .null, .null])) H := ho
  have hp := hp.kept (fun z h1 h2 => oq z (by omega))
  have hp := hp.push (hn.kept (oq _ (by omega)))
  have hz : H.size = s.heap.size + 6 := by omega
  refine lv_aload_n hx hb dX9_init_57 rfl (lv_at hl 0 rfl) ?_
  refine lv_bipush (v := 24) hx hb dX9_init_58 (by decide) ?_
  refine gk_newi (N' := 24) hx hb (hts _ ac_int) hK hS (by decide) (by decide) (by decide) ⟨Nat.le_of_ble_eq_true rfl, Nat.le_of_ble_eq_true rfl⟩ dX9_init_60 (fun q H hn q1 z1 hk hS => ?_)
  obtain rfl : q = (s.heap.size + 6) := by omega
  have hp := hp.kept (fun z h1 h2 => hk z (by omega))
  have ho := ho.kept (hk _ (by omega))
  have hz : H.size = s.heap.size + 7 := by omega
  refine gk_putF (ty := .array .int) (v := .ref (s.heap.size + 6)) hx hb hts iwX9 tyX9 tyX9_ok nmX9 hown hK.1 hS (Or.inl rfl) ho rfl 13 (by decide) (hts _ fl_X9_32) (fun _ h9 => h9) rfl hin rfl (by decide +kernel) rfl rfl (Nat.le_of_ble_eq_true rfl) dX9_init_62 (fun H locs ho z1 oq hS => ?_)
  have ho : va_at D vwCl (a, .inr (9, [.int 0, .int 0, .int 0, .int 0, .ref s.heap.size, .ref (s.heap.size + 1), .ref (s.heap.size + 2), .int 0, .ref (s.heap.size + 3), .int 0, .ref (s.heap.size + 4), .int 1, .ref (s.heap.size + 5), .ref (s.heap.size + 6), .null, .null, .int 0, .null, .null, .null, .null, .null, .null, .null, .null, .null, .int 0, .null, .null, .null, .null, .null, .null, .null, .null, .int 0, .null, .null])) H := ho
  have hp := hp.kept (fun z h1 h2 => oq z (by omega))
  have hp := hp.push (hn.kept (oq _ (by omega)))
  have hz : H.size = s.heap.size + 7 := by omega
  refine lv_aload_n hx hb dX9_init_65 rfl (lv_at hl 0 rfl) ?_
  refine lv_bipush (v := 24) hx hb dX9_init_66 (by decide) ?_
  refine gk_newi (N' := 24) hx hb (hts _ ac_int) hK hS (by decide) (by decide) (by decide) ⟨Nat.le_of_ble_eq_true rfl, Nat.le_of_ble_eq_true rfl⟩ dX9_init_68 (fun q H hn q1 z1 hk hS => ?_)
  obtain rfl : q = (s.heap.size + 7) := by omega
  have hp := hp.kept (fun z h1 h2 => hk z (by omega))
  have ho := ho.kept (hk _ (by omega))
  have hz : H.size = s.heap.size + 8 := by omega
  refine gk_putF (ty := .array .int) (v := .ref (s.heap.size + 7)) hx hb hts iwX9 tyX9 tyX9_ok nmX9 hown hK.1 hS (Or.inl rfl) ho rfl 14 (by decide) (hts _ fl_X9_35) (fun _ h9 => h9) rfl hin rfl (by decide +kernel) rfl rfl (Nat.le_of_ble_eq_true rfl) dX9_init_70 (fun H locs ho z1 oq hS => ?_)
  have ho : va_at D vwCl (a, .inr (9, [.int 0, .int 0, .int 0, .int 0, .ref s.heap.size, .ref (s.heap.size + 1), .ref (s.heap.size + 2), .int 0, .ref (s.heap.size + 3), .int 0, .ref (s.heap.size + 4), .int 1, .ref (s.heap.size + 5), .ref (s.heap.size + 6), .ref (s.heap.size + 7), .null, .int 0, .null, .null, .null, .null, .null, .null, .null, .null, .null, .int 0, .null, .null, .null, .null, .null, .null, .null, .null, .int 0, .null, .null])) H := ho
  have hp := hp.kept (fun z h1 h2 => oq z (by omega))
  have hp := hp.push (hn.kept (oq _ (by omega)))
  have hz : H.size = s.heap.size + 8 := by omega
  refine lv_aload_n hx hb dX9_init_73 rfl (lv_at hl 0 rfl) ?_
  refine lv_bipush (v := 24) hx hb dX9_init_74 (by decide) ?_
  refine gk_newi (N' := 24) hx hb (hts _ ac_int) hK hS (by decide) (by decide) (by decide) ⟨Nat.le_of_ble_eq_true rfl, Nat.le_of_ble_eq_true rfl⟩ dX9_init_76 (fun q H hn q1 z1 hk hS => ?_)
  obtain rfl : q = (s.heap.size + 8) := by omega
  have hp := hp.kept (fun z h1 h2 => hk z (by omega))
  have ho := ho.kept (hk _ (by omega))
  have hz : H.size = s.heap.size + 9 := by omega
  refine gk_putF (ty := .array .int) (v := .ref (s.heap.size + 8)) hx hb hts iwX9 tyX9 tyX9_ok nmX9 hown hK.1 hS (Or.inl rfl) ho rfl 15 (by decide) (hts _ fl_X9_38) (fun _ h9 => h9) rfl hin rfl (by decide +kernel) rfl rfl (Nat.le_of_ble_eq_true rfl) dX9_init_78 (fun H locs ho z1 oq hS => ?_)
  have ho : va_at D vwCl (a, .inr (9, [.int 0, .int 0, .int 0, .int 0, .ref s.heap.size, .ref (s.heap.size + 1), .ref (s.heap.size + 2), .int 0, .ref (s.heap.size + 3), .int 0, .ref (s.heap.size + 4), .int 1, .ref (s.heap.size + 5), .ref (s.heap.size + 6), .ref (s.heap.size + 7), .ref (s.heap.size + 8), .int 0, .null, .null, .null, .null, .null, .null, .null, .null, .null, .int 0, .null, .null, .null, .null, .null, .null, .null, .null, .int 0, .null, .null])) H := ho
  have hp := hp.kept (fun z h1 h2 => oq z (by omega))
  have hp := hp.push (hn.kept (oq _ (by omega)))
  have hz : H.size = s.heap.size + 9 := by omega
  refine lv_aload_n hx hb dX9_init_81 rfl (lv_at hl 0 rfl) ?_
  refine lv_bipush (v := 30) hx hb dX9_init_82 (by decide) ?_
  refine gk_newz (N' := 30) hx hb (hts _ ac_bool) hK hS (by decide) (by decide) (by decide) ⟨Nat.le_of_ble_eq_true rfl, Nat.le_of_ble_eq_true rfl⟩ dX9_init_84 (fun q H hn q1 z1 hk hS => ?_)
  obtain rfl : q = (s.heap.size + 9) := by omega
  have hp := hp.kept (fun z h1 h2 => hk z (by omega))
  have ho := ho.kept (hk _ (by omega))
  have hz : H.size = s.heap.size + 10 := by omega
  refine gk_putF (ty := .array .boolean) (v := .ref (s.heap.size + 9)) hx hb hts iwX9 tyX9 tyX9_ok nmX9 hown hK.1 hS (Or.inl rfl) ho rfl 17 (by decide) (hts _ fl_X9_41) (fun _ h9 => h9) rfl hin rfl (by decide +kernel) rfl rfl (Nat.le_of_ble_eq_true rfl) dX9_init_86 (fun H locs ho z1 oq hS => ?_)
  have ho : va_at D vwCl (a, .inr (9, [.int 0, .int 0, .int 0, .int 0, .ref s.heap.size, .ref (s.heap.size + 1), .ref (s.heap.size + 2), .int 0, .ref (s.heap.size + 3), .int 0, .ref (s.heap.size + 4), .int 1, .ref (s.heap.size + 5), .ref (s.heap.size + 6), .ref (s.heap.size + 7), .ref (s.heap.size + 8), .int 0, .ref (s.heap.size + 9), .null, .null, .null, .null, .null, .null, .null, .null, .int 0, .null, .null, .null, .null, .null, .null, .null, .null, .int 0, .null, .null])) H := ho
  have hp := hp.kept (fun z h1 h2 => oq z (by omega))
  have hp := hp.push (hn.kept (oq _ (by omega)))
  have hz : H.size = s.heap.size + 10 := by omega
  refine lv_aload_n hx hb dX9_init_89 rfl (lv_at hl 0 rfl) ?_
  refine lv_bipush (v := 30) hx hb dX9_init_90 (by decide) ?_
  refine gk_newz (N' := 30) hx hb (hts _ ac_bool) hK hS (by decide) (by decide) (by decide) ⟨Nat.le_of_ble_eq_true rfl, Nat.le_of_ble_eq_true rfl⟩ dX9_init_92 (fun q H hn q1 z1 hk hS => ?_)
  obtain rfl : q = (s.heap.size + 10) := by omega
  have hp := hp.kept (fun z h1 h2 => hk z (by omega))
  have ho := ho.kept (hk _ (by omega))
  have hz : H.size = s.heap.size + 11 := by omega
  refine gk_putF (ty := .array .boolean) (v := .ref (s.heap.size + 10)) hx hb hts iwX9 tyX9 tyX9_ok nmX9 hown hK.1 hS (Or.inl rfl) ho rfl 18 (by decide) (hts _ fl_X9_45) (fun _ h9 => h9) rfl hin rfl (by decide +kernel) rfl rfl (Nat.le_of_ble_eq_true rfl) dX9_init_94 (fun H locs ho z1 oq hS => ?_)
  have ho : va_at D vwCl (a, .inr (9, [.int 0, .int 0, .int 0, .int 0, .ref s.heap.size, .ref (s.heap.size + 1), .ref (s.heap.size + 2), .int 0, .ref (s.heap.size + 3), .int 0, .ref (s.heap.size + 4), .int 1, .ref (s.heap.size + 5), .ref (s.heap.size + 6), .ref (s.heap.size + 7), .ref (s.heap.size + 8), .int 0, .ref (s.heap.size + 9), .ref (s.heap.size + 10), .null, .null, .null, .null, .null, .null, .null, .int 0, .null, .null, .null, .null, .null, .null, .null, .null, .int 0, .null, .null])) H := ho
  have hp := hp.kept (fun z h1 h2 => oq z (by omega))
  have hp := hp.push (hn.kept (oq _ (by omega)))
  have hz : H.size = s.heap.size + 11 := by omega
  refine lv_aload_n hx hb dX9_init_97 rfl (lv_at hl 0 rfl) ?_
  refine lv_bipush (v := 30) hx hb dX9_init_98 (by decide) ?_
  refine gk_newi (N' := 30) hx hb (hts _ ac_int) hK hS (by decide) (by decide) (by decide) ⟨Nat.le_of_ble_eq_true rfl, Nat.le_of_ble_eq_true rfl⟩ dX9_init_100 (fun q H hn q1 z1 hk hS => ?_)
  obtain rfl : q = (s.heap.size + 11) := by omega
  have hp := hp.kept (fun z h1 h2 => hk z (by omega))
  have ho := ho.kept (hk _ (by omega))
  have hz : H.size = s.heap.size + 12 := by omega
  refine gk_putF (ty := .array .int) (v := .ref (s.heap.size + 11)) hx hb hts iwX9 tyX9 tyX9_ok nmX9 hown hK.1 hS (Or.inl rfl) ho rfl 19 (by decide) (hts _ fl_X9_48) (fun _ h9 => h9) rfl hin rfl (by decide +kernel) rfl rfl (Nat.le_of_ble_eq_true rfl) dX9_init_102 (fun H locs ho z1 oq hS => ?_)
  have ho : va_at D vwCl (a, .inr (9, [.int 0, .int 0, .int 0, .int 0, .ref s.heap.size, .ref (s.heap.size + 1), .ref (s.heap.size + 2), .int 0, .ref (s.heap.size + 3), .int 0, .ref (s.heap.size + 4), .int 1, .ref (s.heap.size + 5), .ref (s.heap.size + 6), .ref (s.heap.size + 7), .ref (s.heap.size + 8), .int 0, .ref (s.heap.size + 9), .ref (s.heap.size + 10), .ref (s.heap.size + 11), .null, .null, .null, .null, .null, .null, .int 0, .null, .null, .null, .null, .null, .null, .null, .null, .int 0, .null, .null])) H := ho
  have hp := hp.kept (fun z h1 h2 => oq z (by omega))
  have hp := hp.push (hn.kept (oq _ (by omega)))
  have hz : H.size = s.heap.size + 12 := by omega
  refine lv_aload_n hx hb dX9_init_105 rfl (lv_at hl 0 rfl) ?_
  refine lv_bipush (v := 30) hx hb dX9_init_106 (by decide) ?_
  refine gk_newi (N' := 30) hx hb (hts _ ac_int) hK hS (by decide) (by decide) (by decide) ⟨Nat.le_of_ble_eq_true rfl, Nat.le_of_ble_eq_true rfl⟩ dX9_init_108 (fun q H hn q1 z1 hk hS => ?_)
  obtain rfl : q = (s.heap.size + 12) := by omega
  have hp := hp.kept (fun z h1 h2 => hk z (by omega))
  have ho := ho.kept (hk _ (by omega))
  have hz : H.size = s.heap.size + 13 := by omega
  refine gk_putF (ty := .array .int) (v := .ref (s.heap.size + 12)) hx hb hts iwX9 tyX9 tyX9_ok nmX9 hown hK.1 hS (Or.inl rfl) ho rfl 20 (by decide) (hts _ fl_X9_51) (fun _ h9 => h9) rfl hin rfl (by decide +kernel) rfl rfl (Nat.le_of_ble_eq_true rfl) dX9_init_110 (fun H locs ho z1 oq hS => ?_)
  have ho : va_at D vwCl (a, .inr (9, [.int 0, .int 0, .int 0, .int 0, .ref s.heap.size, .ref (s.heap.size + 1), .ref (s.heap.size + 2), .int 0, .ref (s.heap.size + 3), .int 0, .ref (s.heap.size + 4), .int 1, .ref (s.heap.size + 5), .ref (s.heap.size + 6), .ref (s.heap.size + 7), .ref (s.heap.size + 8), .int 0, .ref (s.heap.size + 9), .ref (s.heap.size + 10), .ref (s.heap.size + 11), .ref (s.heap.size + 12), .null, .null, .null, .null, .null, .int 0, .null, .null, .null, .null, .null, .null, .null, .null, .int 0, .null, .null])) H := ho
  have hp := hp.kept (fun z h1 h2 => oq z (by omega))
  have hp := hp.push (hn.kept (oq _ (by omega)))
  have hz : H.size = s.heap.size + 13 := by omega
  refine lv_aload_n hx hb dX9_init_113 rfl (lv_at hl 0 rfl) ?_
  refine lv_bipush (v := 30) hx hb dX9_init_114 (by decide) ?_
  refine gk_newi (N' := 30) hx hb (hts _ ac_int) hK hS (by decide) (by decide) (by decide) ⟨Nat.le_of_ble_eq_true rfl, Nat.le_of_ble_eq_true rfl⟩ dX9_init_116 (fun q H hn q1 z1 hk hS => ?_)
  obtain rfl : q = (s.heap.size + 13) := by omega
  have hp := hp.kept (fun z h1 h2 => hk z (by omega))
  have ho := ho.kept (hk _ (by omega))
  have hz : H.size = s.heap.size + 14 := by omega
  refine gk_putF (ty := .array .int) (v := .ref (s.heap.size + 13)) hx hb hts iwX9 tyX9 tyX9_ok nmX9 hown hK.1 hS (Or.inl rfl) ho rfl 21 (by decide) (hts _ fl_X9_54) (fun _ h9 => h9) rfl hin rfl (by decide +kernel) rfl rfl (Nat.le_of_ble_eq_true rfl) dX9_init_118 (fun H locs ho z1 oq hS => ?_)
  have ho : va_at D vwCl (a, .inr (9, [.int 0, .int 0, .int 0, .int 0, .ref s.heap.size, .ref (s.heap.size + 1), .ref (s.heap.size + 2), .int 0, .ref (s.heap.size + 3), .int 0, .ref (s.heap.size + 4), .int 1, .ref (s.heap.size + 5), .ref (s.heap.size + 6), .ref (s.heap.size + 7), .ref (s.heap.size + 8), .int 0, .ref (s.heap.size + 9), .ref (s.heap.size + 10), .ref (s.heap.size + 11), .ref (s.heap.size + 12), .ref (s.heap.size + 13), .null, .null, .null, .null, .int 0, .null, .null, .null, .null, .null, .null, .null, .null, .int 0, .null, .null])) H := ho
  have hp := hp.kept (fun z h1 h2 => oq z (by omega))
  have hp := hp.push (hn.kept (oq _ (by omega)))
  have hz : H.size = s.heap.size + 14 := by omega
  refine lv_aload_n hx hb dX9_init_121 rfl (lv_at hl 0 rfl) ?_
  refine lv_bipush (v := 30) hx hb dX9_init_122 (by decide) ?_
  refine gk_newi (N' := 30) hx hb (hts _ ac_int) hK hS (by decide) (by decide) (by decide) ⟨Nat.le_of_ble_eq_true rfl, Nat.le_of_ble_eq_true rfl⟩ dX9_init_124 (fun q H hn q1 z1 hk hS => ?_)
  obtain rfl : q = (s.heap.size + 14) := by omega
  have hp := hp.kept (fun z h1 h2 => hk z (by omega))
  have ho := ho.kept (hk _ (by omega))
  have hz : H.size = s.heap.size + 15 := by omega
  refine gk_putF (ty := .array .int) (v := .ref (s.heap.size + 14)) hx hb hts iwX9 tyX9 tyX9_ok nmX9 hown hK.1 hS (Or.inl rfl) ho rfl 22 (by decide) (hts _ fl_X9_57) (fun _ h9 => h9) rfl hin rfl (by decide +kernel) rfl rfl (Nat.le_of_ble_eq_true rfl) dX9_init_126 (fun H locs ho z1 oq hS => ?_)
  have ho : va_at D vwCl (a, .inr (9, [.int 0, .int 0, .int 0, .int 0, .ref s.heap.size, .ref (s.heap.size + 1), .ref (s.heap.size + 2), .int 0, .ref (s.heap.size + 3), .int 0, .ref (s.heap.size + 4), .int 1, .ref (s.heap.size + 5), .ref (s.heap.size + 6), .ref (s.heap.size + 7), .ref (s.heap.size + 8), .int 0, .ref (s.heap.size + 9), .ref (s.heap.size + 10), .ref (s.heap.size + 11), .ref (s.heap.size + 12), .ref (s.heap.size + 13), .ref (s.heap.size + 14), .null, .null, .null, .int 0, .null, .null, .null, .null, .null, .null, .null, .null, .int 0, .null, .null])) H := ho
  have hp := hp.kept (fun z h1 h2 => oq z (by omega))
  have hp := hp.push (hn.kept (oq _ (by omega)))
  have hz : H.size = s.heap.size + 15 := by omega
  refine lv_aload_n hx hb dX9_init_129 rfl (lv_at hl 0 rfl) ?_
  refine lv_bipush (v := 30) hx hb dX9_init_130 (by decide) ?_
  refine gk_newi (N' := 30) hx hb (hts _ ac_int) hK hS (by decide) (by decide) (by decide) ⟨Nat.le_of_ble_eq_true rfl, Nat.le_of_ble_eq_true rfl⟩ dX9_init_132 (fun q H hn q1 z1 hk hS => ?_)
  obtain rfl : q = (s.heap.size + 15) := by omega
  have hp := hp.kept (fun z h1 h2 => hk z (by omega))
  have ho := ho.kept (hk _ (by omega))
  have hz : H.size = s.heap.size + 16 := by omega
  refine gk_putF (ty := .array .int) (v := .ref (s.heap.size + 15)) hx hb hts iwX9 tyX9 tyX9_ok nmX9 hown hK.1 hS (Or.inl rfl) ho rfl 23 (by decide) (hts _ fl_X9_60) (fun _ h9 => h9) rfl hin rfl (by decide +kernel) rfl rfl (Nat.le_of_ble_eq_true rfl) dX9_init_134 (fun H locs ho z1 oq hS => ?_)
  have ho : va_at D vwCl (a, .inr (9, [.int 0, .int 0, .int 0, .int 0, .ref s.heap.size, .ref (s.heap.size + 1), .ref (s.heap.size + 2), .int 0, .ref (s.heap.size + 3), .int 0, .ref (s.heap.size + 4), .int 1, .ref (s.heap.size + 5), .ref (s.heap.size + 6), .ref (s.heap.size + 7), .ref (s.heap.size + 8), .int 0, .ref (s.heap.size + 9), .ref (s.heap.size + 10), .ref (s.heap.size + 11), .ref (s.heap.size + 12), .ref (s.heap.size + 13), .ref (s.heap.size + 14), .ref (s.heap.size + 15), .null, .null, .int 0, .null, .null, .null, .null, .null, .null, .null, .null, .int 0, .null, .null])) H := ho
  have hp := hp.kept (fun z h1 h2 => oq z (by omega))
  have hp := hp.push (hn.kept (oq _ (by omega)))
  have hz : H.size = s.heap.size + 16 := by omega
  refine lv_aload_n hx hb dX9_init_137 rfl (lv_at hl 0 rfl) ?_
  refine lv_bipush (v := 30) hx hb dX9_init_138 (by decide) ?_
  refine gk_newi (N' := 30) hx hb (hts _ ac_int) hK hS (by decide) (by decide) (by decide) ⟨Nat.le_of_ble_eq_true rfl, Nat.le_of_ble_eq_true rfl⟩ dX9_init_140 (fun q H hn q1 z1 hk hS => ?_)
  obtain rfl : q = (s.heap.size + 16) := by omega
  have hp := hp.kept (fun z h1 h2 => hk z (by omega))
  have ho := ho.kept (hk _ (by omega))
  have hz : H.size = s.heap.size + 17 := by omega
  refine gk_putF (ty := .array .int) (v := .ref (s.heap.size + 16)) hx hb hts iwX9 tyX9 tyX9_ok nmX9 hown hK.1 hS (Or.inl rfl) ho rfl 24 (by decide) (hts _ fl_X9_63) (fun _ h9 => h9) rfl hin rfl (by decide +kernel) rfl rfl (Nat.le_of_ble_eq_true rfl) dX9_init_142 (fun H locs ho z1 oq hS => ?_)
  have ho : va_at D vwCl (a, .inr (9, [.int 0, .int 0, .int 0, .int 0, .ref s.heap.size, .ref (s.heap.size + 1), .ref (s.heap.size + 2), .int 0, .ref (s.heap.size + 3), .int 0, .ref (s.heap.size + 4), .int 1, .ref (s.heap.size + 5), .ref (s.heap.size + 6), .ref (s.heap.size + 7), .ref (s.heap.size + 8), .int 0, .ref (s.heap.size + 9), .ref (s.heap.size + 10), .ref (s.heap.size + 11), .ref (s.heap.size + 12), .ref (s.heap.size + 13), .ref (s.heap.size + 14), .ref (s.heap.size + 15), .ref (s.heap.size + 16), .null, .int 0, .null, .null, .null, .null, .null, .null, .null, .null, .int 0, .null, .null])) H := ho
  have hp := hp.kept (fun z h1 h2 => oq z (by omega))
  have hp := hp.push (hn.kept (oq _ (by omega)))
  have hz : H.size = s.heap.size + 17 := by omega
  refine lv_aload_n hx hb dX9_init_145 rfl (lv_at hl 0 rfl) ?_
  refine lv_bipush (v := 30) hx hb dX9_init_146 (by decide) ?_
  refine gk_newi (N' := 30) hx hb (hts _ ac_int) hK hS (by decide) (by decide) (by decide) ⟨Nat.le_of_ble_eq_true rfl, Nat.le_of_ble_eq_true rfl⟩ dX9_init_148 (fun q H hn q1 z1 hk hS => ?_)
  obtain rfl : q = (s.heap.size + 17) := by omega
  have hp := hp.kept (fun z h1 h2 => hk z (by omega))
  have ho := ho.kept (hk _ (by omega))
  have hz : H.size = s.heap.size + 18 := by omega
  refine gk_putF (ty := .array .int) (v := .ref (s.heap.size + 17)) hx hb hts iwX9 tyX9 tyX9_ok nmX9 hown hK.1 hS (Or.inl rfl) ho rfl 25 (by decide) (hts _ fl_X9_66) (fun _ h9 => h9) rfl hin rfl (by decide +kernel) rfl rfl (Nat.le_of_ble_eq_true rfl) dX9_init_150 (fun H locs ho z1 oq hS => ?_)
  have ho : va_at D vwCl (a, .inr (9, [.int 0, .int 0, .int 0, .int 0, .ref s.heap.size, .ref (s.heap.size + 1), .ref (s.heap.size + 2), .int 0, .ref (s.heap.size + 3), .int 0, .ref (s.heap.size + 4), .int 1, .ref (s.heap.size + 5), .ref (s.heap.size + 6), .ref (s.heap.size + 7), .ref (s.heap.size + 8), .int 0, .ref (s.heap.size + 9), .ref (s.heap.size + 10), .ref (s.heap.size + 11), .ref (s.heap.size + 12), .ref (s.heap.size + 13), .ref (s.heap.size + 14), .ref (s.heap.size + 15), .ref (s.heap.size + 16), .ref (s.heap.size + 17), .int 0, .null, .null, .null, .null, .null, .null, .null, .null, .int 0, .null, .null])) H := ho
  have hp := hp.kept (fun z h1 h2 => oq z (by omega))
  have hp := hp.push (hn.kept (oq _ (by omega)))
  have hz : H.size = s.heap.size + 18 := by omega
  refine lv_aload_n hx hb dX9_init_153 rfl (lv_at hl 0 rfl) ?_
  refine lv_bipush (v := 30) hx hb dX9_init_154 (by decide) ?_
  refine gk_newi (N' := 30) hx hb (hts _ ac_int) hK hS (by decide) (by decide) (by decide) ⟨Nat.le_of_ble_eq_true rfl, Nat.le_of_ble_eq_true rfl⟩ dX9_init_156 (fun q H hn q1 z1 hk hS => ?_)
  obtain rfl : q = (s.heap.size + 18) := by omega
  have hp := hp.kept (fun z h1 h2 => hk z (by omega))
  have ho := ho.kept (hk _ (by omega))
  have hz : H.size = s.heap.size + 19 := by omega
  refine gk_putF (ty := .array .int) (v := .ref (s.heap.size + 18)) hx hb hts iwX9 tyX9 tyX9_ok nmX9 hown hK.1 hS (Or.inl rfl) ho rfl 27 (by decide) (hts _ fl_X9_69) (fun _ h9 => h9) rfl hin rfl (by decide +kernel) rfl rfl (Nat.le_of_ble_eq_true rfl) dX9_init_158 (fun H locs ho z1 oq hS => ?_)
  have ho : va_at D vwCl (a, .inr (9, [.int 0, .int 0, .int 0, .int 0, .ref s.heap.size, .ref (s.heap.size + 1), .ref (s.heap.size + 2), .int 0, .ref (s.heap.size + 3), .int 0, .ref (s.heap.size + 4), .int 1, .ref (s.heap.size + 5), .ref (s.heap.size + 6), .ref (s.heap.size + 7), .ref (s.heap.size + 8), .int 0, .ref (s.heap.size + 9), .ref (s.heap.size + 10), .ref (s.heap.size + 11), .ref (s.heap.size + 12), .ref (s.heap.size + 13), .ref (s.heap.size + 14), .ref (s.heap.size + 15), .ref (s.heap.size + 16), .ref (s.heap.size + 17), .int 0, .ref (s.heap.size + 18), .null, .null, .null, .null, .null, .null, .null, .int 0, .null, .null])) H := ho
  have hp := hp.kept (fun z h1 h2 => oq z (by omega))
  have hp := hp.push (hn.kept (oq _ (by omega)))
  have hz : H.size = s.heap.size + 19 := by omega
  refine lv_aload_n hx hb dX9_init_161 rfl (lv_at hl 0 rfl) ?_
  refine lv_bipush (v := 30) hx hb dX9_init_162 (by decide) ?_
  refine gk_newi (N' := 30) hx hb (hts _ ac_int) hK hS (by decide) (by decide) (by decide) ⟨Nat.le_of_ble_eq_true rfl, Nat.le_of_ble_eq_true rfl⟩ dX9_init_164 (fun q H hn q1 z1 hk hS => ?_)
  obtain rfl : q = (s.heap.size + 19) := by omega
  have hp := hp.kept (fun z h1 h2 => hk z (by omega))
  have ho := ho.kept (hk _ (by omega))
  have hz : H.size = s.heap.size + 20 := by omega
  refine gk_putF (ty := .array .int) (v := .ref (s.heap.size + 19)) hx hb hts iwX9 tyX9 tyX9_ok nmX9 hown hK.1 hS (Or.inl rfl) ho rfl 28 (by decide) (hts _ fl_X9_72) (fun _ h9 => h9) rfl hin rfl (by decide +kernel) rfl rfl (Nat.le_of_ble_eq_true rfl) dX9_init_166 (fun H locs ho z1 oq hS => ?_)
  have ho : va_at D vwCl (a, .inr (9, [.int 0, .int 0, .int 0, .int 0, .ref s.heap.size, .ref (s.heap.size + 1), .ref (s.heap.size + 2), .int 0, .ref (s.heap.size + 3), .int 0, .ref (s.heap.size + 4), .int 1, .ref (s.heap.size + 5), .ref (s.heap.size + 6), .ref (s.heap.size + 7), .ref (s.heap.size + 8), .int 0, .ref (s.heap.size + 9), .ref (s.heap.size + 10), .ref (s.heap.size + 11), .ref (s.heap.size + 12), .ref (s.heap.size + 13), .ref (s.heap.size + 14), .ref (s.heap.size + 15), .ref (s.heap.size + 16), .ref (s.heap.size + 17), .int 0, .ref (s.heap.size + 18), .ref (s.heap.size + 19), .null, .null, .null, .null, .null, .null, .int 0, .null, .null])) H := ho
  have hp := hp.kept (fun z h1 h2 => oq z (by omega))
  have hp := hp.push (hn.kept (oq _ (by omega)))
  have hz : H.size = s.heap.size + 20 := by omega
  refine lv_aload_n hx hb dX9_init_169 rfl (lv_at hl 0 rfl) ?_
  refine lv_bipush (v := 30) hx hb dX9_init_170 (by decide) ?_
  refine gk_newi (N' := 30) hx hb (hts _ ac_int) hK hS (by decide) (by decide) (by decide) ⟨Nat.le_of_ble_eq_true rfl, Nat.le_of_ble_eq_true rfl⟩ dX9_init_172 (fun q H hn q1 z1 hk hS => ?_)
  obtain rfl : q = (s.heap.size + 20) := by omega
  have hp := hp.kept (fun z h1 h2 => hk z (by omega))
  have ho := ho.kept (hk _ (by omega))
  have hz : H.size = s.heap.size + 21 := by omega
  refine gk_putF (ty := .array .int) (v := .ref (s.heap.size + 20)) hx hb hts iwX9 tyX9 tyX9_ok nmX9 hown hK.1 hS (Or.inl rfl) ho rfl 29 (by decide) (hts _ fl_X9_75) (fun _ h9 => h9) rfl hin rfl (by decide +kernel) rfl rfl (Nat.le_of_ble_eq_true rfl) dX9_init_174 (fun H locs ho z1 oq hS => ?_)
  have ho : va_at D vwCl (a, .inr (9, [.int 0, .int 0, .int 0, .int 0, .ref s.heap.size, .ref (s.heap.size + 1), .ref (s.heap.size + 2), .int 0, .ref (s.heap.size + 3), .int 0, .ref (s.heap.size + 4), .int 1, .ref (s.heap.size + 5), .ref (s.heap.size + 6), .ref (s.heap.size + 7), .ref (s.heap.size + 8), .int 0, .ref (s.heap.size + 9), .ref (s.heap.size + 10), .ref (s.heap.size + 11), .ref (s.heap.size + 12), .ref (s.heap.size + 13), .ref (s.heap.size + 14), .ref (s.heap.size + 15), .ref (s.heap.size + 16), .ref (s.heap.size + 17), .int 0, .ref (s.heap.size + 18), .ref (s.heap.size + 19), .ref (s.heap.size + 20), .null, .null, .null, .null, .null, .int 0, .null, .null])) H := ho
  have hp := hp.kept (fun z h1 h2 => oq z (by omega))
  have hp := hp.push (hn.kept (oq _ (by omega)))
  have hz : H.size = s.heap.size + 21 := by omega
  refine lv_aload_n hx hb dX9_init_177 rfl (lv_at hl 0 rfl) ?_
  refine lv_bipush (v := 30) hx hb dX9_init_178 (by decide) ?_
  refine gk_newi (N' := 30) hx hb (hts _ ac_int) hK hS (by decide) (by decide) (by decide) ⟨Nat.le_of_ble_eq_true rfl, Nat.le_of_ble_eq_true rfl⟩ dX9_init_180 (fun q H hn q1 z1 hk hS => ?_)
  obtain rfl : q = (s.heap.size + 21) := by omega
  have hp := hp.kept (fun z h1 h2 => hk z (by omega))
  have ho := ho.kept (hk _ (by omega))
  have hz : H.size = s.heap.size + 22 := by omega
  refine gk_putF (ty := .array .int) (v := .ref (s.heap.size + 21)) hx hb hts iwX9 tyX9 tyX9_ok nmX9 hown hK.1 hS (Or.inl rfl) ho rfl 30 (by decide) (hts _ fl_X9_78) (fun _ h9 => h9) rfl hin rfl (by decide +kernel) rfl rfl (Nat.le_of_ble_eq_true rfl) dX9_init_182 (fun H locs ho z1 oq hS => ?_)
  have ho : va_at D vwCl (a, .inr (9, [.int 0, .int 0, .int 0, .int 0, .ref s.heap.size, .ref (s.heap.size + 1), .ref (s.heap.size + 2), .int 0, .ref (s.heap.size + 3), .int 0, .ref (s.heap.size + 4), .int 1, .ref (s.heap.size + 5), .ref (s.heap.size + 6), .ref (s.heap.size + 7), .ref (s.heap.size + 8), .int 0, .ref (s.heap.size + 9), .ref (s.heap.size + 10), .ref (s.heap.size + 11), .ref (s.heap.size + 12), .ref (s.heap.size + 13), .ref (s.heap.size + 14), .ref (s.heap.size + 15), .ref (s.heap.size + 16), .ref (s.heap.size + 17), .int 0, .ref (s.heap.size + 18), .ref (s.heap.size + 19), .ref (s.heap.size + 20), .ref (s.heap.size + 21), .null, .null, .null, .null, .int 0, .null, .null])) H := ho
  have hp := hp.kept (fun z h1 h2 => oq z (by omega))
  have hp := hp.push (hn.kept (oq _ (by omega)))
  have hz : H.size = s.heap.size + 22 := by omega
  refine lv_aload_n hx hb dX9_init_185 rfl (lv_at hl 0 rfl) ?_
  refine lv_bipush (v := 30) hx hb dX9_init_186 (by decide) ?_
  refine gk_newi (N' := 30) hx hb (hts _ ac_int) hK hS (by decide) (by decide) (by decide) ⟨Nat.le_of_ble_eq_true rfl, Nat.le_of_ble_eq_true rfl⟩ dX9_init_188 (fun q H hn q1 z1 hk hS => ?_)
  obtain rfl : q = (s.heap.size + 22) := by omega
  have hp := hp.kept (fun z h1 h2 => hk z (by omega))
  have ho := ho.kept (hk _ (by omega))
  have hz : H.size = s.heap.size + 23 := by omega
  refine gk_putF (ty := .array .int) (v := .ref (s.heap.size + 22)) hx hb hts iwX9 tyX9 tyX9_ok nmX9 hown hK.1 hS (Or.inl rfl) ho rfl 31 (by decide) (hts _ fl_X9_81) (fun _ h9 => h9) rfl hin rfl (by decide +kernel) rfl rfl (Nat.le_of_ble_eq_true rfl) dX9_init_190 (fun H locs ho z1 oq hS => ?_)
  have ho : va_at D vwCl (a, .inr (9, [.int 0, .int 0, .int 0, .int 0, .ref s.heap.size, .ref (s.heap.size + 1), .ref (s.heap.size + 2), .int 0, .ref (s.heap.size + 3), .int 0, .ref (s.heap.size + 4), .int 1, .ref (s.heap.size + 5), .ref (s.heap.size + 6), .ref (s.heap.size + 7), .ref (s.heap.size + 8), .int 0, .ref (s.heap.size + 9), .ref (s.heap.size + 10), .ref (s.heap.size + 11), .ref (s.heap.size + 12), .ref (s.heap.size + 13), .ref (s.heap.size + 14), .ref (s.heap.size + 15), .ref (s.heap.size + 16), .ref (s.heap.size + 17), .int 0, .ref (s.heap.size + 18), .ref (s.heap.size + 19), .ref (s.heap.size + 20), .ref (s.heap.size + 21), .ref (s.heap.size + 22), .null, .null, .null, .int 0, .null, .null])) H := ho
  have hp := hp.kept (fun z h1 h2 => oq z (by omega))
  have hp := hp.push (hn.kept (oq _ (by omega)))
  have hz : H.size = s.heap.size + 23 := by omega
  refine lv_aload_n hx hb dX9_init_193 rfl (lv_at hl 0 rfl) ?_
  refine lv_bipush (v := 30) hx hb dX9_init_194 (by decide) ?_
  refine gk_newi (N' := 30) hx hb (hts _ ac_int) hK hS (by decide) (by decide) (by decide) ⟨Nat.le_of_ble_eq_true rfl, Nat.le_of_ble_eq_true rfl⟩ dX9_init_196 (fun q H hn q1 z1 hk hS => ?_)
  obtain rfl : q = (s.heap.size + 23) := by omega
  have hp := hp.kept (fun z h1 h2 => hk z (by omega))
  have ho := ho.kept (hk _ (by omega))
  have hz : H.size = s.heap.size + 24 := by omega
  refine gk_putF (ty := .array .int) (v := .ref (s.heap.size + 23)) hx hb hts iwX9 tyX9 tyX9_ok nmX9 hown hK.1 hS (Or.inl rfl) ho rfl 32 (by decide) (hts _ fl_X9_84) (fun _ h9 => h9) rfl hin rfl (by decide +kernel) rfl rfl (Nat.le_of_ble_eq_true rfl) dX9_init_198 (fun H locs ho z1 oq hS => ?_)
  have ho : va_at D vwCl (a, .inr (9, [.int 0, .int 0, .int 0, .int 0, .ref s.heap.size, .ref (s.heap.size + 1), .ref (s.heap.size + 2), .int 0, .ref (s.heap.size + 3), .int 0, .ref (s.heap.size + 4), .int 1, .ref (s.heap.size + 5), .ref (s.heap.size + 6), .ref (s.heap.size + 7), .ref (s.heap.size + 8), .int 0, .ref (s.heap.size + 9), .ref (s.heap.size + 10), .ref (s.heap.size + 11), .ref (s.heap.size + 12), .ref (s.heap.size + 13), .ref (s.heap.size + 14), .ref (s.heap.size + 15), .ref (s.heap.size + 16), .ref (s.heap.size + 17), .int 0, .ref (s.heap.size + 18), .ref (s.heap.size + 19), .ref (s.heap.size + 20), .ref (s.heap.size + 21), .ref (s.heap.size + 22), .ref (s.heap.size + 23), .null, .null, .int 0, .null, .null])) H := ho
  have hp := hp.kept (fun z h1 h2 => oq z (by omega))
  have hp := hp.push (hn.kept (oq _ (by omega)))
  have hz : H.size = s.heap.size + 24 := by omega
  refine lv_aload_n hx hb dX9_init_201 rfl (lv_at hl 0 rfl) ?_
  refine lv_bipush (v := 6) hx hb dX9_init_202 (by decide) ?_
  refine gk_newi (N' := 6) hx hb (hts _ ac_int) hK hS (by decide) (by decide) (by decide) ⟨Nat.le_of_ble_eq_true rfl, Nat.le_of_ble_eq_true rfl⟩ dX9_init_204 (fun q H hn q1 z1 hk hS => ?_)
  obtain rfl : q = (s.heap.size + 24) := by omega
  have hp := hp.kept (fun z h1 h2 => hk z (by omega))
  have ho := ho.kept (hk _ (by omega))
  have hz : H.size = s.heap.size + 25 := by omega
  refine gk_putF (ty := .array .int) (v := .ref (s.heap.size + 24)) hx hb hts iwX9 tyX9 tyX9_ok nmX9 hown hK.1 hS (Or.inl rfl) ho rfl 33 (by decide) (hts _ fl_X9_87) (fun _ h9 => h9) rfl hin rfl (by decide +kernel) rfl rfl (Nat.le_of_ble_eq_true rfl) dX9_init_206 (fun H locs ho z1 oq hS => ?_)
  have ho : va_at D vwCl (a, .inr (9, [.int 0, .int 0, .int 0, .int 0, .ref s.heap.size, .ref (s.heap.size + 1), .ref (s.heap.size + 2), .int 0, .ref (s.heap.size + 3), .int 0, .ref (s.heap.size + 4), .int 1, .ref (s.heap.size + 5), .ref (s.heap.size + 6), .ref (s.heap.size + 7), .ref (s.heap.size + 8), .int 0, .ref (s.heap.size + 9), .ref (s.heap.size + 10), .ref (s.heap.size + 11), .ref (s.heap.size + 12), .ref (s.heap.size + 13), .ref (s.heap.size + 14), .ref (s.heap.size + 15), .ref (s.heap.size + 16), .ref (s.heap.size + 17), .int 0, .ref (s.heap.size + 18), .ref (s.heap.size + 19), .ref (s.heap.size + 20), .ref (s.heap.size + 21), .ref (s.heap.size + 22), .ref (s.heap.size + 23), .ref (s.heap.size + 24), .null, .int 0, .null, .null])) H := ho
  have hp := hp.kept (fun z h1 h2 => oq z (by omega))
  have hp := hp.push (hn.kept (oq _ (by omega)))
  have hz : H.size = s.heap.size + 25 := by omega
  refine lv_aload_n hx hb dX9_init_209 rfl (lv_at hl 0 rfl) ?_
  refine lv_sipush (v := 288) hx hb dX9_init_210 (by decide) ?_
  refine gk_newi (N' := 288) hx hb (hts _ ac_int) hK hS (by decide) (by decide) (by decide) ⟨Nat.le_of_ble_eq_true rfl, Nat.le_of_ble_eq_true rfl⟩ dX9_init_213 (fun q H hn q1 z1 hk hS => ?_)
  obtain rfl : q = (s.heap.size + 25) := by omega
  have hp := hp.kept (fun z h1 h2 => hk z (by omega))
  have ho := ho.kept (hk _ (by omega))
  have hz : H.size = s.heap.size + 26 := by omega
  refine gk_putF (ty := .array .int) (v := .ref (s.heap.size + 25)) hx hb hts iwX9 tyX9 tyX9_ok nmX9 hown hK.1 hS (Or.inl rfl) ho rfl 34 (by decide) (hts _ fl_X9_90) (fun _ h9 => h9) rfl hin rfl (by decide +kernel) rfl rfl (Nat.le_of_ble_eq_true rfl) dX9_init_215 (fun H locs ho z1 oq hS => ?_)
  have ho : va_at D vwCl (a, .inr (9, [.int 0, .int 0, .int 0, .int 0, .ref s.heap.size, .ref (s.heap.size + 1), .ref (s.heap.size + 2), .int 0, .ref (s.heap.size + 3), .int 0, .ref (s.heap.size + 4), .int 1, .ref (s.heap.size + 5), .ref (s.heap.size + 6), .ref (s.heap.size + 7), .ref (s.heap.size + 8), .int 0, .ref (s.heap.size + 9), .ref (s.heap.size + 10), .ref (s.heap.size + 11), .ref (s.heap.size + 12), .ref (s.heap.size + 13), .ref (s.heap.size + 14), .ref (s.heap.size + 15), .ref (s.heap.size + 16), .ref (s.heap.size + 17), .int 0, .ref (s.heap.size + 18), .ref (s.heap.size + 19), .ref (s.heap.size + 20), .ref (s.heap.size + 21), .ref (s.heap.size + 22), .ref (s.heap.size + 23), .ref (s.heap.size + 24), .ref (s.heap.size + 25), .int 0, .null, .null])) H := ho
  have hp := hp.kept (fun z h1 h2 => oq z (by omega))
  have hp := hp.push (hn.kept (oq _ (by omega)))
  have hz : H.size = s.heap.size + 26 := by omega
  refine lv_aload_n hx hb dX9_init_218 rfl (lv_at hl 0 rfl) ?_
  refine lv_iconst (v := (-1)) hx hb dX9_init_219 (by decide) ?_
  refine gk_putf (ty := .int) (v := .int (-1)) hx hb hts iwX9 tyX9 tyX9_ok nmX9 hown hK.1 hS (Or.inl rfl) ho rfl 35 (by decide) (hts _ fl_X9_93) (fun _ h9 => h9) rfl (by decide +kernel) rfl rfl (Nat.le_of_ble_eq_true rfl) dX9_init_220 (fun H locs ho z1 oq hS => ?_)
  have ho : va_at D vwCl (a, .inr (9, [.int 0, .int 0, .int 0, .int 0, .ref s.heap.size, .ref (s.heap.size + 1), .ref (s.heap.size + 2), .int 0, .ref (s.heap.size + 3), .int 0, .ref (s.heap.size + 4), .int 1, .ref (s.heap.size + 5), .ref (s.heap.size + 6), .ref (s.heap.size + 7), .ref (s.heap.size + 8), .int 0, .ref (s.heap.size + 9), .ref (s.heap.size + 10), .ref (s.heap.size + 11), .ref (s.heap.size + 12), .ref (s.heap.size + 13), .ref (s.heap.size + 14), .ref (s.heap.size + 15), .ref (s.heap.size + 16), .ref (s.heap.size + 17), .int 0, .ref (s.heap.size + 18), .ref (s.heap.size + 19), .ref (s.heap.size + 20), .ref (s.heap.size + 21), .ref (s.heap.size + 22), .ref (s.heap.size + 23), .ref (s.heap.size + 24), .ref (s.heap.size + 25), .int (-1), .null, .null])) H := ho
  have hp := hp.kept (fun z h1 h2 => oq z (by omega))
  have hz : H.size = s.heap.size + 26 := by omega
  refine lv_aload_n hx hb dX9_init_223 rfl (lv_at hl 0 rfl) ?_
  refine lv_bipush (v := 12) hx hb dX9_init_224 (by decide) ?_
  refine gk_newi (N' := 12) hx hb (hts _ ac_int) hK hS (by decide) (by decide) (by decide) ⟨Nat.le_of_ble_eq_true rfl, Nat.le_of_ble_eq_true rfl⟩ dX9_init_226 (fun q H hn q1 z1 hk hS => ?_)
  obtain rfl : q = (s.heap.size + 26) := by omega
  have hp := hp.kept (fun z h1 h2 => hk z (by omega))
  have ho := ho.kept (hk _ (by omega))
  have hz : H.size = s.heap.size + 27 := by omega
  refine gk_putF (ty := .array .int) (v := .ref (s.heap.size + 26)) hx hb hts iwX9 tyX9 tyX9_ok nmX9 hown hK.1 hS (Or.inl rfl) ho rfl 36 (by decide) (hts _ fl_X9_96) (fun _ h9 => h9) rfl hin rfl (by decide +kernel) rfl rfl (Nat.le_of_ble_eq_true rfl) dX9_init_228 (fun H locs ho z1 oq hS => ?_)
  have ho : va_at D vwCl (a, .inr (9, [.int 0, .int 0, .int 0, .int 0, .ref s.heap.size, .ref (s.heap.size + 1), .ref (s.heap.size + 2), .int 0, .ref (s.heap.size + 3), .int 0, .ref (s.heap.size + 4), .int 1, .ref (s.heap.size + 5), .ref (s.heap.size + 6), .ref (s.heap.size + 7), .ref (s.heap.size + 8), .int 0, .ref (s.heap.size + 9), .ref (s.heap.size + 10), .ref (s.heap.size + 11), .ref (s.heap.size + 12), .ref (s.heap.size + 13), .ref (s.heap.size + 14), .ref (s.heap.size + 15), .ref (s.heap.size + 16), .ref (s.heap.size + 17), .int 0, .ref (s.heap.size + 18), .ref (s.heap.size + 19), .ref (s.heap.size + 20), .ref (s.heap.size + 21), .ref (s.heap.size + 22), .ref (s.heap.size + 23), .ref (s.heap.size + 24), .ref (s.heap.size + 25), .int (-1), .ref (s.heap.size + 26), .null])) H := ho
  have hp := hp.kept (fun z h1 h2 => oq z (by omega))
  have hp := hp.push (hn.kept (oq _ (by omega)))
  have hz : H.size = s.heap.size + 27 := by omega
  refine lv_aload_n hx hb dX9_init_231 rfl (lv_at hl 0 rfl) ?_
  refine lv_bipush (v := 30) hx hb dX9_init_232 (by decide) ?_
  refine gk_newi (N' := 30) hx hb (hts _ ac_int) hK hS (by decide) (by decide) (by decide) ⟨Nat.le_of_ble_eq_true rfl, Nat.le_of_ble_eq_true rfl⟩ dX9_init_234 (fun q H hn q1 z1 hk hS => ?_)
  obtain rfl : q = (s.heap.size + 27) := by omega
  have hp := hp.kept (fun z h1 h2 => hk z (by omega))
  have ho := ho.kept (hk _ (by omega))
  have hz : H.size = s.heap.size + 28 := by omega
  refine gk_putF (ty := .array .int) (v := .ref (s.heap.size + 27)) hx hb hts iwX9 tyX9 tyX9_ok nmX9 hown hK.1 hS (Or.inl rfl) ho rfl 37 (by decide) (hts _ fl_X9_99) (fun _ h9 => h9) rfl hin rfl (by decide +kernel) rfl rfl (Nat.le_of_ble_eq_true rfl) dX9_init_236 (fun H locs ho z1 oq hS => ?_)
  have ho : va_at D vwCl (a, .inr (9, [.int 0, .int 0, .int 0, .int 0, .ref s.heap.size, .ref (s.heap.size + 1), .ref (s.heap.size + 2), .int 0, .ref (s.heap.size + 3), .int 0, .ref (s.heap.size + 4), .int 1, .ref (s.heap.size + 5), .ref (s.heap.size + 6), .ref (s.heap.size + 7), .ref (s.heap.size + 8), .int 0, .ref (s.heap.size + 9), .ref (s.heap.size + 10), .ref (s.heap.size + 11), .ref (s.heap.size + 12), .ref (s.heap.size + 13), .ref (s.heap.size + 14), .ref (s.heap.size + 15), .ref (s.heap.size + 16), .ref (s.heap.size + 17), .int 0, .ref (s.heap.size + 18), .ref (s.heap.size + 19), .ref (s.heap.size + 20), .ref (s.heap.size + 21), .ref (s.heap.size + 22), .ref (s.heap.size + 23), .ref (s.heap.size + 24), .ref (s.heap.size + 25), .int (-1), .ref (s.heap.size + 26), .ref (s.heap.size + 27)])) H := ho
  have hp := hp.kept (fun z h1 h2 => oq z (by omega))
  have hp := hp.push (hn.kept (oq _ (by omega)))
  have hz : H.size = s.heap.size + 28 := by omega
  have hW : mk_W D cI cZ (mk_am a s.heap.size) mk_1 H := by
    refine ⟨mk_amI ha0, ho, fun k hk => ?_⟩
    obtain ⟨o1, o2, o3⟩ := mk_psOff k hk
    have h3 := hp _ o1
    rw [o2] at h3
    unfold mk_am
    rw [if_neg o3]
    exact h3
  clear hp
  clear ho
  refine lv_aload_n hx hb dX9_init_239 rfl (lv_at hl 0 rfl) ?_
  refine gk_get hx hb hts iwX9 hown hK.1 (mk_objW hW) rfl 12 (by decide) (hts _ fl_X9_29) (fun _ h9 => h9) rfl dX9_init_240 ?_
  refine lv_iconst (v := 0) hx hb dX9_init_243 (by decide) ?_
  refine lv_iconst (v := (-1)) hx hb dX9_init_244 (by decide) ?_
  refine gk_iast hx hb hK.1 hS (Or.inr (Nat.le_add_right _ _)) 0 (mk_arrW hW (k := 12) (by decide)) rfl (show vp_in 0 24 by unfold vp_in; decide) dX9_init_245 (fun H locs h1 z1 oq hS => ?_)
  have hW := hW.setR (k := 12) (by decide) h1 oq
  have hz : H.size = s.heap.size + 28 := by omega
  refine lv_iconst (v := 0) hx hb dX9_init_246 (by decide) ?_
  refine lv_istore_n (lv' := [(1, .int (nI 0)), (0, .ref a)]) hx hb dX9_init_247 rfl hl (by decide) rfl (fun ls hl => ?_)
  have loop : ∀ (d j : Nat), j + d = 24 → ∀ (H : Heap) (locs : List Loc), mk_W D cI cZ (mk_am a s.heap.size) (mk_2 j) H → H.size = s.heap.size + 28 → va_S (gk_cA a s.heap.size) s.heap H locs → ∀ (ls : Array Slot), lv_has ls 2 [(1, .int (nI j)), (0, .ref a)] →
      W p l e rmX9_init s m (([.ref a] : List Value).toArray) below meth c H locs 28 940 (MQ below (gk_Qc (fun H => mk_W D cI cZ (mk_am a s.heap.size) mk_0 H) a s.heap.size 28) (([.ref a] : List Value).toArray) s 28 940 (gk_cA a s.heap.size)) (F0 m 248 ls []) := by
    intro d
    induction d with
    | zero =>
      intro j hj H locs hW hz hS ls hl
      have hj : j = 24 := hj
      subst hj
      refine lv_iload_n hx hb dX9_init_248 rfl (lv_at hl 0 rfl) ?_
      refine lv_bipush (v := 24) hx hb dX9_init_249 (by decide) ?_
      refine lv_icmp_ge (tgt := 267) hx hb dX9_init_251 (by decide) (fun c7 => ?_) (fun c7 => ?_)
      · exact W.vret hx hb hr (fun t ht _ => ⟨⟨(), rfl, trivial, by rw [ht]; exact hz, by rw [ht]; exact hW⟩, hS.F ht⟩) hS.2.2 dX9_init_267 (hlocks := hlocks)
      · exact absurd (by decide : (24 : Int32) ≤ nI 24) c7
    | succ d ih =>
      intro j hj H locs hW hz hS ls hl
      have hj24 : j < 24 := by omega
      refine lv_iload_n hx hb dX9_init_248 rfl (lv_at hl 0 rfl) ?_
      refine lv_bipush (v := 24) hx hb dX9_init_249 (by decide) ?_
      refine lv_icmp_ge (tgt := 267) hx hb dX9_init_251 (by decide) (fun c7 => ?_) (fun c7 => ?_)
      · exact absurd c7 (nI_ge (b := 24) hj24 (by decide))
      · refine lv_aload_n hx hb dX9_init_254 rfl (lv_at hl 1 rfl) ?_
        refine gk_get hx hb hts iwX9 hown hK.1 (mk_objW hW) rfl 14 (by decide) (hts _ fl_X9_35) (fun _ h9 => h9) rfl dX9_init_255 ?_
        refine lv_iload_n hx hb dX9_init_258 rfl (lv_at hl 0 rfl) ?_
        refine lv_iconst (v := (-1)) hx hb dX9_init_259 (by decide) ?_
        refine gk_iast hx hb hK.1 hS (Or.inr (Nat.le_add_right _ _)) 0 (mk_arrW hW (k := 14) (by decide)) rfl (vp_in_nI hj24 (by decide)) dX9_init_260 (fun H locs h1 z1 oq hS => ?_)
        have hW := hW.setR (k := 14) (by decide) h1 oq
        have e1 : gk_r (mk_2 j) 14 (upd ((mk_2 j).1 14) (nI j).toNatClampNeg (-1)) = mk_2 (j + 1) := by
          rw [nI_clamp (by omega)]
          unfold mk_2 gk_r
          refine Prod.ext ?_ rfl
          funext r k
          by_cases hr14 : r = 14
          · subst hr14
            by_cases h1 : k = j
            · subst h1
              simp [va_up, upd, gk_fill]
            · by_cases h2 : k < j
              · simp [va_up, upd, gk_fill, h1, h2, Nat.lt_succ_of_lt h2]
              · simp [va_up, upd, gk_fill, h1, h2, show ¬ k < j + 1 by omega]
          · simp [va_up, hr14]
        rw [e1] at hW
        have hz : H.size = s.heap.size + 28 := by omega
        refine lv_iinc (v := nI (j + 1)) (lv' := [(1, .int (nI (j + 1))), (0, .ref a)]) hx hb dX9_init_261 hl (k := 0) rfl (nI_1 j) (by decide) rfl (fun ls hl => ?_)
        refine lv_goto (tgt := 248) hx hb dX9_init_264 (by decide) ?_
        exact ih (j + 1) (by omega) _ _ hW hz hS _ hl
  have e0 : gk_r mk_1 12 (upd (mk_1.1 12) (0 : Int32).toNatClampNeg (-1)) = mk_2 0 := by
    unfold mk_2 gk_r
    refine Prod.ext ?_ rfl
    funext r k
    by_cases h14 : r = 14
    · subst h14
      simp [va_up, gk_fill, mk_1]
    · by_cases h12 : r = 12
      · subst h12
        simp [va_up, mk_1, upd]
      · simp [va_up, h14, h12]
  rw [e0] at hW
  exact loop 24 0 rfl _ _ hW hz hS _ hl
def gk_off : List Nat := [0, 1, 2, 11, 16, 27, 46, 59, 72, 3, 5, 7, 9, 12, 14, 17, 19, 21, 23, 25, 28, 30, 32, 34, 36, 38, 40, 42, 44, 47, 49, 51, 53, 55, 57, 60, 62, 64, 66, 68, 70, 73, 75, 77, 79, 81, 83, 85, 4, 6, 8, 10, 13, 15, 18, 20, 22, 24, 26, 29, 31, 33, 35, 37, 39, 41, 43, 45, 48, 50, 52, 54, 56, 58, 61, 63, 65, 67, 69, 71, 74, 76, 78, 80, 82, 84, 86]
def gk_ad (g k : Nat) : Nat := g + gk_off.getD k 0
def gk_S0 : Nat → Int32 | 3 => 1 | _ => 0
def gk_0 : gk_C := (fun r => if r = 9 then gk_fill 24 (-1) (fun _ => 0) else fun _ => 0, gk_S0)
theorem gk_offI : ∀ i, i < 87 → ∀ j, j < 87 → gk_off.getD i 0 = gk_off.getD j 0 → i = j := by decide +kernel
theorem gk_fill0 (n : Nat) : gk_fill n 0 (fun _ => 0) = fun _ => 0 := by funext k; simp [gk_fill]
set_option maxHeartbeats 4000000 in
set_option maxRecDepth 100000 in
theorem gk_iW {D : va_G} {cI : ClassId} {g : Nat} {H : Heap} (h : gk_i8 D cI g (g + 1) H) : gk_W D cI (gk_ad g) gk_0 H := by
  obtain ⟨o8, h4, v0, v1, r38⟩ := h
  obtain ⟨o4, h6, h1, h5, h3, h0⟩ := h4
  obtain ⟨o6, r0, r1, r2, r3⟩ := h6
  obtain ⟨o1, r4, r5⟩ := h1
  obtain ⟨o5, r6, r7, r8, r9, r10⟩ := h5
  obtain ⟨o3, r11, r12, r13, r14, r15, r16, r17, r18, r19⟩ := h3
  obtain ⟨o0, r20, r21, r22, r23, r24, r25⟩ := h0
  obtain ⟨ov0, r26, r27, r28, r29, r30, r31⟩ := v0
  obtain ⟨ov1, r32, r33, r34, r35, r36, r37⟩ := v1
  unfold gk_rw at r0 r1 r2 r3 r4 r5 r6 r7 r8 r9 r10 r11 r12 r13 r14 r15 r16 r17 r18 r19 r20 r21 r22 r23 r24 r25 r26 r27 r28 r29 r30 r31 r32 r33 r34 r35 r36 r37 r38
  rw [gk_fill0] at r0 r1 r2 r3 r4 r5 r6 r7 r8 r10 r11 r12 r13 r14 r15 r16 r17 r18 r19 r20 r21 r22 r23 r24 r25 r26 r27 r28 r29 r30 r31 r32 r33 r34 r35 r36 r37 r38
  refine ⟨fun i j hi hj e => gk_offI i hi j hj (Nat.add_left_cancel e), fun k hk => ?_, fun v hv => ?_, fun r hr => ?_, fun r hr => ?_⟩
  · match k, hk with
    | 0, _ => exact o8
    | 1, _ => exact o4
    | 2, _ => exact o6
    | 3, _ => exact o1
    | 4, _ => exact o5
    | 5, _ => exact o3
    | 6, _ => exact o0
  · match v, hv with
    | 0, _ => exact ov0
    | 1, _ => exact ov1
  · exact (gk_ls (gk_ls (gk_ls (gk_ls (gk_ls (gk_ls (gk_ls (gk_ls (gk_ls (gk_ls (gk_ls (gk_ls (gk_ls (gk_ls (gk_ls (gk_ls (gk_ls (gk_ls (gk_ls (gk_ls (gk_ls (gk_ls (gk_ls (gk_ls (gk_ls (gk_ls (gk_ls (gk_ls (gk_ls (gk_ls (gk_ls (gk_ls (gk_ls (gk_ls (gk_ls (gk_ls (gk_ls (gk_ls (gk_ls (gk_lz (P := fun r => va_at D vwCl (gk_ad g (9 + r), .inr (2, [.ref (gk_ad g (48 + r))])) H)) r0.1) r1.1) r2.1) r3.1) r4.1) r5.1) r6.1) r7.1) r8.1) r9.1) r10.1) r11.1) r12.1) r13.1) r14.1) r15.1) r16.1) r17.1) r18.1) r19.1) r20.1) r21.1) r22.1) r23.1) r24.1) r25.1) r26.1) r27.1) r28.1) r29.1) r30.1) r31.1) r32.1) r33.1) r34.1) r35.1) r36.1) r37.1) r38.1) r hr
  · exact (gk_ls (gk_ls (gk_ls (gk_ls (gk_ls (gk_ls (gk_ls (gk_ls (gk_ls (gk_ls (gk_ls (gk_ls (gk_ls (gk_ls (gk_ls (gk_ls (gk_ls (gk_ls (gk_ls (gk_ls (gk_ls (gk_ls (gk_ls (gk_ls (gk_ls (gk_ls (gk_ls (gk_ls (gk_ls (gk_ls (gk_ls (gk_ls (gk_ls (gk_ls (gk_ls (gk_ls (gk_ls (gk_ls (gk_ls (gk_lz (P := fun r => va_at D vwCl (gk_ad g (48 + r), .inl (cI, (gk_rl r, .inl (gk_0.1 r)))) H)) r0.2) r1.2) r2.2) r3.2) r4.2) r5.2) r6.2) r7.2) r8.2) r9.2) r10.2) r11.2) r12.2) r13.2) r14.2) r15.2) r16.2) r17.2) r18.2) r19.2) r20.2) r21.2) r22.2) r23.2) r24.2) r25.2) r26.2) r27.2) r28.2) r29.2) r30.2) r31.2) r32.2) r33.2) r34.2) r35.2) r36.2) r37.2) r38.2) r hr
