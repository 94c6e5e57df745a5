/-! ===== the law's entry: whole_start ===== -/
theorem lw_fl {args : Array Value} {s : State} (h : (Jvm.Cond.and given_1 narrow_1).before args s = true) : ∀ w ∈ flatC (Jvm.Cond.and given_1 narrow_1), w.before args s = true := flat_of_before _ h
theorem lw_n1 : Cond.isRef (.static Bundle.tN "UNASSIGNED_STACK" Bundle.steD) ∈ flatC (Jvm.Cond.and given_1 narrow_1) := by decide +kernel
theorem lw_n2 : Cond.isRef (.static Bundle.tN "SUPPRESSED_SENTINEL" Bundle.listD) ∈ flatC (Jvm.Cond.and given_1 narrow_1) := by decide +kernel
theorem lw_n12 : Cond.not (.castable gk_E1 gk_E2) ∈ flatC (Jvm.Cond.and given_1 narrow_1) := by decide +kernel
theorem lw_n13 : Cond.not (.castable gk_E1 gk_E3) ∈ flatC (Jvm.Cond.and given_1 narrow_1) := by decide +kernel
theorem lw_n23 : Cond.not (.castable gk_E2 gk_E3) ∈ flatC (Jvm.Cond.and given_1 narrow_1) := by decide +kernel
theorem lw_n32 : Cond.not (.castable gk_E3 gk_E2) ∈ flatC (Jvm.Cond.and given_1 narrow_1) := by decide +kernel
theorem lw_NC {args : Array Value} {s : State} (h : (Jvm.Cond.and given_1 narrow_1).before args s = true) : gk_NC s := ⟨va_Nc.of (lw_fl h _ lw_n12), va_Nc.of (lw_fl h _ lw_n13), va_Nc.of (lw_fl h _ lw_n23), va_Nc.of (lw_fl h _ lw_n32)⟩
theorem lw_NO {args : Array Value} {s : State} (hts : ∀ w ∈ lw_tbl, w.before args s = true) : ∀ w ∈ gk_NO, va_Nw w s := fun w hw => va_Nw.of (by revert w; decide) (hts w (lw_tNO w hw))
theorem lw_NG {args : Array Value} {s : State} (hts : ∀ w ∈ lw_tbl, w.before args s = true) : ∀ w ∈ gk_NG, va_Nw w s := fun w hw => by
  have h1 := hts w (List.mem_filter.mp hw).1
  rcases gk_isN_of hw with ⟨a, i, b, n, d, z, rfl⟩ | ⟨a, i, y, z, rfl⟩
  · exact va_Nw.of rfl h1
  · exact va_Nw.of rfl h1
theorem lw_AO {args : Array Value} {s : State} (hts : ∀ w ∈ lw_tbl, w.before args s = true) : gk_AO s := ⟨hts _ lw_tAO.1, hts _ lw_tAO.2⟩
theorem lw_st {l : Launch} (h : l.flags = flags0) : l.stackTraces = false := by
  unfold Launch.stackTraces
  rw [h]
  decide +kernel
theorem lw_K {args : Array Value} {s : State} (hts : ∀ w ∈ lw_tbl, w.before args s = true) : ∃ (D : va_G) (cI cZ cG cL : ClassId), gk_K D cI cZ cG cL s := by
  have hb := lw_bg hts
  obtain ⟨c0, i0, k0⟩ := u_known (C := RX0) (T := TX0) (N := 7) hb iwX0 (hb _ it_X0)
  obtain ⟨c1, i1, k1⟩ := u_known (C := RX1) (T := TX1) (N := 4) hb iwX1 (hb _ it_X1)
  obtain ⟨c2, i2, k2⟩ := u_known (C := RX2) (T := TX2) (N := 1) hb iwX2 (hb _ it_X2)
  obtain ⟨c3, i3, k3⟩ := u_known (C := RX3) (T := TX3) (N := 10) hb iwX3 (hb _ it_X3)
  obtain ⟨c4, i4, k4⟩ := u_known (C := RX4) (T := TX4) (N := 7) hb iwX4 (hb _ it_X4)
  obtain ⟨c5, i5, k5⟩ := u_known (C := RX5) (T := TX5) (N := 6) hb iwX5 (hb _ it_X5)
  obtain ⟨c6, i6, k6⟩ := u_known (C := RX6) (T := TX6) (N := 5) hb iwX6 (hb _ it_X6)
  obtain ⟨c7, i7, k7⟩ := u_known (C := RX7) (T := TX7) (N := 11) hb iwX7 (hb _ it_X7)
  obtain ⟨c8, i8, k8⟩ := u_known (C := RX8) (T := TX8) (N := 4) hb iwX8 (hb _ it_X8)
  obtain ⟨c9, i9, k9⟩ := u_known (C := RX9) (T := TX9) (N := 22) hb iwX9 (hb _ it_X9)
  obtain ⟨cI, kI, pI, a1, a2, a3⟩ := lw_arr (hb _ ac_int)
  obtain ⟨cZ, kZ, pZ, b1, b2, b3⟩ := lw_arr (hb _ ac_bool)
  obtain ⟨comp, cG, kG, g1, g2, g3, g4, g5⟩ := arrayOverA_spec (lw_AO hts).1
  obtain ⟨comp2, cL, kL, d1, d2, d3, d4, d5⟩ := arrayOverA_spec (lw_AO hts).2
  refine ⟨(fun c => [c0, c1, c2, c3, c4, c5, c6, c7, c8, c9].getD c 0, fun c => [i0, i1, i2, i3, i4, i5, i6, i7, i8, i9].getD c (fun _ => 0)), cI, cZ, cG, cL, ⟨fun c q hq => ?_, fun k q hq => ?_⟩, lw_NG hts, lw_AO hts⟩
  · match c, hq with
    | 0, hq => cases hq; exact k0
    | 1, hq => cases hq; exact k1
    | 2, hq => cases hq; exact k2
    | 3, hq => cases hq; exact k3
    | 4, hq => cases hq; exact k4
    | 5, hq => cases hq; exact k5
    | 6, hq => cases hq; exact k6
    | 7, hq => cases hq; exact k7
    | 8, hq => cases hq; exact k8
    | 9, hq => cases hq; exact k9
    | n + 10, hq => cases hq
  · match k, hq with
    | 0, hq => cases hq; exact ⟨fun n z => ⟨(fun k h => by cases h), kI, a2, pI, a3⟩, a1⟩
    | 1, hq => cases hq; exact ⟨fun n z => ⟨(fun k h => by cases h), kZ, b2, pZ, b3⟩, b1⟩
    | 2, hq => cases hq; exact ⟨fun n z => ⟨(fun k h => by cases h), kG, g3, comp, g4⟩, g5⟩
    | 3, hq => cases hq; exact ⟨fun n z => ⟨(fun k h => by cases h), kL, d3, comp2, d4⟩, d5⟩
    | n + 4, hq => cases hq
theorem lw_Y {args : Array Value} {s : State} {A : Nat → Prop} (hts : ∀ w ∈ lw_tbl, w.before args s = true) (h : (Jvm.Cond.and given_1 narrow_1).before args s = true) (hA : ∀ a : Nat, a < s.heap.size → ¬ A a) : ∃ q1 q2 q3, gk_Y q1 q2 q3 A s s.heap := by
  have hb := lw_bg hts
  obtain ⟨c8, i8, k8⟩ := u_known (C := RX8) (T := TX8) (N := 4) hb iwX8 (hb _ it_X8)
  have hc : s.vm.findClass RX8 = some c8 := k8.2.1
  have e1 := hts _ lw_tS1
  have e2 := hts _ lw_tS2
  have e3 := hts _ lw_tS3
  obtain ⟨-, -, -, q1, -, -, -, -, -, h1⟩ := Cond.stringRef_spec hc e1
  obtain ⟨-, -, -, q2, -, -, -, -, -, h2⟩ := Cond.stringRef_spec hc e2
  obtain ⟨-, -, -, q3, -, -, -, -, -, h3⟩ := Cond.stringRef_spec hc e3
  exact ⟨q1, q2, q3, ⟨vk_R.of e1 h1, vk_R.of e2 h2, vk_R.of e3 h3⟩, lw_NO hts, vx_Zqof (hts _ lw_tL1) (hts _ lw_tI) (lw_fl h _ lw_n1) hA, vx_Zqof (hts _ lw_tL2) (hts _ lw_tI) (lw_fl h _ lw_n2) hA⟩
theorem lw_dr : decode code 1055 = .ok (.ireturn, 1) := dL_law_1055
/-- YOUR PART: from the entry, for every script of at most 260 ints, the law comes to its end with true ('hflags': the launch's flags, for a law that throws: no stack traces) -/
theorem whole_start {p : Program} {e : Env} {s : State} {m : MethodId} {below : List Frame} {meth : Method} {c : Code} (l : Launch) (hflags : l.flags = flags0) {b L : Nat} {xs : Nat → Int32} (hL : L ≤ 260) (C0 : lw_At p s m meth c b L xs) : W p l e room_1 s m #[Value.ref b] below meth c s.heap [] 0 0 (lw_Z below #[Value.ref b] s) (entryFrame m ([Value.ref b] : List Value).toArray 20) := by
  obtain ⟨hx, hb, hr, hml, hown, hts, hX, hbl, hlocks, hgv⟩ := C0
  obtain ⟨D, cI, cZ, cG, cL, hK⟩ := lw_K hts
  obtain ⟨q1, q2, q3, hY⟩ := lw_Y (A := lo_A s.heap.size) hts hgv (fun a h1 h2 => absurd h1 (Nat.not_lt.mpr h2))
  obtain ⟨I, hH⟩ := lk_all
  have C : lk_C p s m meth c l D cI cZ cG cL q1 q2 q3 b L xs := ⟨⟨hx, hb, hml, hown, lw_bg hts, hr, hlocks⟩, hK, ⟨hY, hX, hbl, fun h => absurd hbl (Nat.not_lt.mpr h), lw_NC hgv, hL⟩, lw_st hflags⟩
  have hl := lv_entry ([.ref b]) (n := 20) (Nat.le_of_ble_eq_true rfl)
  rw [lg_entry_eq]
  generalize (lg_sl ([.ref b]) ++ List.replicate (20 - (lg_sl ([.ref b])).length) Slot.unset).toArray = ls at hl ⊢
  have hl : lv_has ls 20 [(0, .ref b)] := hl
  have hS : va_S (lo_A s.heap.size) s.heap s.heap [] := va_S.rf
  have hd0 := Drawn.sameBut.refl s.drawn lw_cs
  refine W.base ?_
  show W p l e room_1 (s.setDrawn s.drawn) m _ below meth c s.heap [] 0 0 _ (F0 m 0 ls [])
  refine lv_iconst (v := 0) hx hb dL_law_0 (by decide) ?_
  refine lv_istore_n (lv' := [(1, .int (nI 0)), (0, .ref b)]) hx hb dL_law_1 rfl hl (by decide) rfl (fun ls hl => ?_)
  refine lk_2 C lw_bits hH (Q := lw_Z below #[Value.ref b] s) (fun H ls locs d1 hd hS => ?_) 2 0 rfl s.heap [] s.drawn hd0 hS _ (lv_sub hl [1, 0] rfl)
  refine va_forget (fun q hq => hS.2.2 q hq) ?_
  exact W.widen (k := 600074) (n := 7301550) (Nat.le_of_ble_eq_true rfl) (Nat.le_of_ble_eq_true rfl) (lw_ret hd hx hb hr hlocks lw_dr)
