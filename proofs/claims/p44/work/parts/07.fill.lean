/-! Arrays.fill, Row.clear, Row.takeOut -/
def gk_fill (n : Nat) (x : Int32) (f : Nat → Int32) : Nat → Int32 := fun k => if k < n then x else f k
abbrev rmJ7_fill : Room := { frames := 0, cells := 0, slots := 0, locals := 0 }
abbrev gk_Pf (D : va_G) (cI : ClassId) (a n : Nat) (f : Nat → Int32) (x : Int32) : Array Value → State → Prop := va_Pc [.ref a, .int x] (fun U => va_at D vwCl (a, .inl (cI, (n, .inl f))) U.heap ∧ va_K D vwCl [(cI, .int)] U)
set_option maxHeartbeats 4000000 in
set_option maxRecDepth 100000 in
theorem c_fill (l : Launch) (D : va_G) {cI : ClassId} {a n : Nat} {f : Nat → Int32} {x : Int32} (hn : n < 2 ^ 31) : Met l yJ7_fill_53178 wsJ7_fill_53178 rmJ7_fill (gk_Pf D cI a n f x) (va_Qv (fun _ : Unit => True) (fun _ t => va_at D vwCl (a, .inl (cI, (n, .inl (gk_fill n x f)))) t.heap) (fun q => q = a)) 0 0 (fun q => q = a) := by
  refine Met.ofW (cc := cJ7_fill_53178) (maxL := 4) (ret := none) (by decide) rfl ?_
  intro p e s m args below meth c s₁ B hml0 hv0
  obtain ⟨rfl, hA, hK⟩ := hv0
  have hx := B.exec
  have hb := B.bytes
  have hr := B.returns
  have hlocks := B.notSynchronized
  have hl := lv_entry ([.ref a, .int x]) (n := 4) (Nat.le_of_ble_eq_true rfl)
  rw [lg_entry_eq]
  generalize (lg_sl ([.ref a, .int x]) ++ List.replicate (4 - (lg_sl ([.ref a, .int x])).length) Slot.unset).toArray = ls at hl ⊢
  have hl : lv_has ls 4 [(0, .ref a), (1, .int x)] := hl
  show W p l e rmJ7_fill s m _ below meth c s.heap [] 0 0 _ _
  have loop : ∀ (d j : Nat), j + d = n → ∀ (H : Heap) (locs : List Loc), va_at D vwCl (a, .inl (cI, (n, .inl (gk_fill j x f)))) H → va_S (fun q => q = a) s.heap H locs → ∀ (ls : Array Slot), lv_has ls 4 [(0, .ref a), (1, .int x), (2, .int (nI j)), (3, .int (nI n))] →
      W p l e rmJ7_fill s m (([.ref a, .int x] : List Value).toArray) below meth c H locs 0 0 (MQ below (va_Qv (fun _ : Unit => True) (fun _ t => va_at D vwCl (a, .inl (cI, (n, .inl (gk_fill n x f)))) t.heap) (fun q => q = a)) (([.ref a, .int x] : List Value).toArray) s 0 0 (fun q => q = a)) (F0 m 5 ls []) := by
    intro d
    induction d with
    | zero =>
      intro j hj H locs hA hS ls hl
      have hj : j = n := hj
      subst hj
      refine lv_iload_n hx hb dJ7_fill_53178_5 rfl (lv_at hl 2 rfl) ?_
      refine lv_iload_n hx hb dJ7_fill_53178_6 rfl (lv_at hl 3 rfl) ?_
      refine lv_icmp_ge (tgt := 20) hx hb dJ7_fill_53178_7 (by decide) (fun c7 => ?_) (fun c7 => ?_)
      · exact W.vret hx hb hr (fun t ht _ => ⟨⟨(), rfl, trivial, by show va_at D vwCl _ t.heap; rw [ht]; exact hA⟩, hS.F ht⟩) hS.2.2 dJ7_fill_53178_20
      · exact absurd (nI_le (Nat.le_refl j) hn) c7
    | succ d ih =>
      intro j hj H locs hA hS ls hl
      have hjn : j < n := by omega
      refine lv_iload_n hx hb dJ7_fill_53178_5 rfl (lv_at hl 2 rfl) ?_
      refine lv_iload_n hx hb dJ7_fill_53178_6 rfl (lv_at hl 3 rfl) ?_
      refine lv_icmp_ge (tgt := 20) hx hb dJ7_fill_53178_7 (by decide) (fun c7 => ?_) (fun c7 => ?_)
      · exact absurd c7 (nI_ge hjn hn)
      · refine lv_aload_n hx hb dJ7_fill_53178_10 rfl (lv_at hl 0 rfl) ?_
        refine lv_iload_n hx hb dJ7_fill_53178_11 rfl (lv_at hl 2 rfl) ?_
        refine lv_iload_n hx hb dJ7_fill_53178_12 rfl (lv_at hl 1 rfl) ?_
        refine gk_iast hx hb hK hS rfl 0 hA rfl (vp_in_nI hjn hn) dJ7_fill_53178_13 (fun H locs h1 _ oq hS => ?_)
        have e1 : upd (gk_fill j x f) (nI j).toNatClampNeg x = gk_fill (j + 1) x f := by
          rw [nI_clamp (Nat.lt_trans hjn hn)]
          funext k
          by_cases h1 : k = j
          · subst h1
            simp [upd, gk_fill]
          · by_cases h2 : k < j
            · simp [upd, gk_fill, h1, h2, Nat.lt_succ_of_lt h2]
            · simp [upd, gk_fill, h1, h2, show ¬ k < j + 1 by omega]
        rw [e1] at h1
        refine lv_iinc (v := nI (j + 1)) (lv' := [(2, .int (nI (j + 1))), (0, .ref a), (1, .int x), (3, .int (nI n))]) hx hb dJ7_fill_53178_14 hl (k := 2) rfl (nI_1 j) (by decide) rfl (fun ls hl => ?_)
        refine lv_goto (tgt := 5) hx hb dJ7_fill_53178_17 (by decide) ?_
        exact ih (j + 1) (by omega) _ _ h1 hS _ (lv_sub hl [1, 2, 0, 3] rfl)
  refine lv_iconst (v := 0) hx hb dJ7_fill_53178_0 (by decide) ?_
  refine lv_istore_n (lv' := [(2, .int 0), (0, .ref a), (1, .int x)]) hx hb dJ7_fill_53178_1 rfl hl (by decide) rfl (fun ls hl => ?_)
  refine lv_aload_n hx hb dJ7_fill_53178_2 rfl (lv_at hl 1 rfl) ?_
  refine gk_alen hx hb hK 0 hA rfl (v := nI n) rfl dJ7_fill_53178_3 ?_
  refine lv_istore_n (lv' := [(3, .int (nI n)), (2, .int 0), (0, .ref a), (1, .int x)]) hx hb dJ7_fill_53178_4 rfl hl (by decide) rfl (fun ls hl => ?_)
  have e0 : gk_fill 0 x f = f := by funext k; simp [gk_fill]
  exact loop n 0 (by omega) _ _ (by rw [e0]; exact hA) va_S.rf _ (lv_sub hl [2, 3, 1, 0] rfl)
abbrev rmX2_clear : Room := { frames := 1, cells := 0, slots := 0, locals := 23 }
set_option maxHeartbeats 4000000 in
set_option maxRecDepth 100000 in
theorem c_X2_clear (l : Launch) (D : va_G) (cI cZ cG cL : ClassId) (ad : Nat → Nat) {σ : gk_C} {r : Nat} (hr : r < 39) {sz : Nat} : Met l yX2_clear wsX2_clear rmX2_clear (gk_Pc D cI cZ cG cL ad [.ref (ad (9 + r))] sz σ) (va_Qv (fun u => u = gk_clr σ r) (gk_B D cI ad) (gk_A ad sz)) 0 0 (gk_A ad sz) := by
  refine Met.ofW (cc := cX2_clear) (maxL := 1) (ret := none) (by decide) rfl ?_
  intro p e s m args below meth c s₁ B hml0 hv0
  obtain ⟨rfl, hsz, hW, hK⟩ := hv0
  subst hsz
  have C0 : gk_F p s m ([.ref (ad (9 + r))] : List Value).toArray meth c cX2_clear 1 none RX2 := ⟨B.exec, B.bytes, hml0, findClass_of_methodNamed B.named, fun w hw => atoms_spec (ws := wsX2_clear) B.pre w (List.mem_cons_of_mem _ hw), B.returns, B.notSynchronized⟩
  obtain ⟨hx, hb, hml, hown, hts, hr0, hlocks⟩ := id C0
  have hS : va_S (gk_A ad s.heap.size) s.heap s.heap [] := va_S.rf
  have hl := lv_entry ([.ref (ad (9 + r))]) (n := 1) (Nat.le_of_ble_eq_true rfl)
  rw [lg_entry_eq]
  generalize (lg_sl ([.ref (ad (9 + r))]) ++ List.replicate (1 - (lg_sl ([.ref (ad (9 + r))])).length) Slot.unset).toArray = ls at hl ⊢
  have hl : lv_has ls 1 [(0, .ref (ad (9 + r)))] := hl
  show W p l e rmX2_clear s m _ below meth c s.heap [] 0 0 _ _
  refine lv_aload_n hx hb dX2_clear_0 rfl (lv_at hl 0 rfl) ?_
  refine gk_get hx hb hts iwX2 hown hK.1 (gk_or hW hr) rfl 0 (by decide) (hts _ fl_X2_13) (fun _ h9 => h9) rfl dX2_clear_1 ?_
  refine lv_iconst (v := 0) hx hb dX2_clear_4 (by decide) ?_
  refine va_callv (va_runS (As := [.ref (ad (48 + r)), .int 0]) (rest := []) ⟨hx, hb, hml, hown, hts⟩ (c_fill l D (cI := cI) (a := ad (48 + r)) (n := gk_rl r) (f := σ.1 r) (x := 0) gk_len) (va_cwS 2 hts (gk_gS ml_X2_19 st_J7_fill_53178 in_J7 co_J7_fill_53178) rfl rfl rfl (by decide +kernel) ⟨Nat.le_of_ble_eq_true rfl, Nat.le_of_ble_eq_true rfl⟩) ⟨fun a U g mk q => ⟨q.1, q.2.1, va_K.moved (u := U) (U := U.calling g mk a) (Vm.Alike.refl U.vm) q.2.2⟩, fun U hU hW' => ⟨rfl, by rw [hU]; exact gk_oa hW hr, va_K.moved hW'.alike (hK.1.sub [0] rfl)⟩⟩ rfl rfl hl.1 rfl (lv_room (Nat.le_of_ble_eq_true rfl)) dX2_clear_5 ⟨Nat.zero_le _, Nat.zero_le _⟩) hS (fun q _ h => by subst h; exact gk_A.in (by omega)) (fun q h => by subst h; exact gk_A.in (by omega)) (fun u t H1 locs ht hvm hw hB hz hk hS => ?_)
  rw [ht] at hB
  have hlt : ∀ q, q ≠ ad (48 + r) → q < s.heap.size → H1[q]? = s.heap[q]? := fun q h1 h2 => hk q h2 h1
  have hW1 : gk_W D cI ad (gk_clr σ r) H1 := by
    have ne : ∀ j, j < 87 → j ≠ 48 + r → H1[ad j]? = s.heap[ad j]? := fun j hj hn => hlt _ (fun e => hn (hW.1 j (48 + r) hj (by omega) e)) (hW.lt hj)
    refine ⟨hW.1, fun j hj => (hW.2.1 j hj).kept (ne j (by omega) (by omega)), fun w hw => (hW.2.2.1 w hw).kept (ne _ (by omega) (by omega)), fun k hk => (hW.2.2.2.1 k hk).kept (ne _ (by omega) (by omega)), fun k hk => ?_⟩
    by_cases hkr : k = r
    · subst hkr
      show va_at D vwCl (ad (48 + k), .inl (cI, (gk_rl k, .inl (va_up σ.1 k (fun j => if j < gk_rl k then 0 else σ.1 k j) k)))) H1
      rw [show va_up σ.1 k (fun j => if j < gk_rl k then 0 else σ.1 k j) k = gk_fill (gk_rl k) 0 (σ.1 k) by simp [va_up]; rfl]
      exact hB
    · show va_at D vwCl (ad (48 + k), .inl (cI, (gk_rl k, .inl (va_up σ.1 r (fun j => if j < gk_rl r then 0 else σ.1 r j) k)))) H1
      rw [va_up_ne _ _ hkr]
      exact (hW.2.2.2.2 k hk).kept (ne _ (by omega) (by omega))
  exact gk_retv C0 rfl hW1 hS dX2_clear_8
theorem gk_rr {σ : gk_C} {r : Nat} {f g : Nat → Int32} : gk_r (gk_r σ r f) r g = gk_r σ r g := by
  unfold gk_r
  congr 1
  funext k
  by_cases h : k = r
  · simp [va_up, h]
  · simp [va_up, h]
theorem gk_rrow {σ : gk_C} {r : Nat} {f : Nat → Int32} : (gk_r σ r f).1 r = f := by simp [gk_r, va_up]
theorem gk_rid {σ : gk_C} {r : Nat} {f : Nat → Int32} (h : ∀ k, f k = σ.1 r k) : gk_r σ r f = σ := by
  unfold gk_r
  rw [show va_up σ.1 r f = σ.1 from ?_]
  funext k
  by_cases hk : k = r
  · subst hk
    rw [show va_up σ.1 k f k = f by simp [va_up]]
    funext j
    exact h j
  · exact va_up_ne _ _ hk
def gk_ot (f : Nat → Int32) (i0 N j : Nat) : Nat → Int32 := fun k => if i0 ≤ k ∧ k < j ∧ k + 1 < N then f (k + 1) else f k
abbrev rmX2_takeOut : Room := { frames := 1, cells := 0, slots := 0, locals := 21 }
set_option maxHeartbeats 4000000 in
set_option maxRecDepth 100000 in
theorem c_X2_takeOut (l : Launch) (D : va_G) (cI cZ cG cL : ClassId) (ad : Nat → Nat) {σ : gk_C} {r : Nat} {i : Int32} (hr : r < 39) {sz : Nat} : Met l yX2_takeOut wsX2_takeOut rmX2_takeOut (gk_Pc D cI cZ cG cL ad [.ref (ad (9 + r)), .int i] sz σ) (va_Qv (fun u => u = gk_out σ r i) (gk_B D cI ad) (gk_A ad sz)) 0 0 (gk_A ad sz) := by
  refine Met.ofW (cc := cX2_takeOut) (maxL := 3) (ret := none) (by decide) rfl ?_
  intro p e s m args below meth c s₁ B hml0 hv0
  obtain ⟨rfl, hsz, hW, hK⟩ := hv0
  subst hsz
  have C0 : gk_F p s m ([.ref (ad (9 + r)), .int i] : List Value).toArray meth c cX2_takeOut 3 none RX2 := ⟨B.exec, B.bytes, hml0, findClass_of_methodNamed B.named, fun w hw => atoms_spec (ws := wsX2_takeOut) B.pre w (List.mem_cons_of_mem _ hw), B.returns, B.notSynchronized⟩
  obtain ⟨hx, hb, hml, hown, hts, hr0, hlocks⟩ := id C0
  have hS : va_S (gk_A ad s.heap.size) s.heap s.heap [] := va_S.rf
  have hl := lv_entry ([.ref (ad (9 + r)), .int i]) (n := 3) (Nat.le_of_ble_eq_true rfl)
  rw [lg_entry_eq]
  generalize (lg_sl ([.ref (ad (9 + r)), .int i]) ++ List.replicate (3 - (lg_sl ([.ref (ad (9 + r)), .int i])).length) Slot.unset).toArray = ls at hl ⊢
  have hl : lv_has ls 3 [(0, .ref (ad (9 + r))), (1, .int i)] := hl
  show W p l e rmX2_takeOut s m _ below meth c s.heap [] 0 0 _ _
  have hN : gk_rl r < 2 ^ 31 := gk_len
  have hN0 : 1 ≤ gk_rl r := by
    have : ∀ r, r < 39 → 1 ≤ gk_rl r := by decide +kernel
    exact this r hr
  generalize hNe : gk_rl r = N at hN hN0
  obtain ⟨i0, hi0, hie, hic⟩ : ∃ i0 : Nat, i0 < 2 ^ 31 ∧ (if i < 0 then (0 : Int32) else i) = nI i0 ∧ i.toNatClampNeg = i0 := by
    by_cases h : i < 0
    · refine ⟨0, by decide, by rw [if_pos h]; exact nI_0.symm, ?_⟩
      have h1 : i.toInt < 0 := Int32.lt_iff_toInt_lt.mp h
      exact Int.toNat_of_nonpos (Int.le_of_lt h1)
    · obtain ⟨j, hj, rfl⟩ := nI_of h
      exact ⟨j, hj, by rw [if_neg h], nI_clamp hj⟩
  have e1 : Int32.ofNat N - 1 = nI (N - 1) := by
    have := pk_sub (a := N) (b := 1) hN0
    exact this
  have loop : ∀ (d j : Nat), N ≤ j + d → i0 ≤ j → (j < N ∨ j = i0) → ∀ (H : Heap) (locs : List Loc), gk_W D cI ad (gk_r σ r (gk_ot (σ.1 r) i0 N j)) H → va_S (gk_A ad s.heap.size) s.heap H locs → ∀ (ls : Array Slot), lv_has ls 3 [(0, .ref (ad (9 + r))), (2, .int (nI j))] →
      W p l e rmX2_takeOut s m (([.ref (ad (9 + r)), .int i] : List Value).toArray) below meth c H locs 0 0 (MQ below (va_Qv (fun u => u = gk_out σ r i) (gk_B D cI ad) (gk_A ad s.heap.size)) (([.ref (ad (9 + r)), .int i] : List Value).toArray) s 0 0 (gk_A ad s.heap.size)) (F0 m 6 ls []) := by
    intro d
    induction d with
    | zero =>
      intro j hj hij hjN H locs hW hS ls hl
      have hjb : j < 2 ^ 31 := by rcases hjN with h | h <;> omega
      refine lv_iload_n hx hb dX2_takeOut_6 rfl (lv_at hl 1 rfl) ?_
      refine lv_aload_n hx hb dX2_takeOut_7 rfl (lv_at hl 0 rfl) ?_
      refine gk_get hx hb hts iwX2 hown hK.1 (gk_or hW hr) rfl 0 (by decide) (hts _ fl_X2_13) (fun _ h9 => h9) rfl dX2_takeOut_8 ?_
      refine gk_alen hx hb hK.1 0 (gk_oa hW hr) rfl (v := Int32.ofNat N) (by show Int32.ofNat (gk_rl r) = _; rw [hNe]) dX2_takeOut_11 ?_
      refine lv_iconst (v := 1) hx hb dX2_takeOut_12 (by decide) ?_
      refine lv_isub hx hb dX2_takeOut_13 ?_
      rw [e1]
      refine lv_icmp_ge (tgt := 37) hx hb dX2_takeOut_14 (by decide) (fun c7 => ?_) (fun c7 => ?_)
      · refine gk_retv C0 ?_ hW hS dX2_takeOut_37
        unfold gk_out
        congr 1
        funext k
        unfold gk_ot
        rw [hic, hNe]
        by_cases h1 : i0 ≤ k ∧ k + 1 < N
        · rw [if_pos h1, if_pos ⟨h1.1, by omega, h1.2⟩]
        · rw [if_neg h1, if_neg (fun h => h1 ⟨h.1, h.2.2⟩)]
      · exact absurd (nI_le (show N - 1 ≤ j by omega) hjb) c7
    | succ d ih =>
      intro j hj hij hjN H locs hW hS ls hl
      have hjb : j < 2 ^ 31 := by rcases hjN with h | h <;> omega
      refine lv_iload_n hx hb dX2_takeOut_6 rfl (lv_at hl 1 rfl) ?_
      refine lv_aload_n hx hb dX2_takeOut_7 rfl (lv_at hl 0 rfl) ?_
      refine gk_get hx hb hts iwX2 hown hK.1 (gk_or hW hr) rfl 0 (by decide) (hts _ fl_X2_13) (fun _ h9 => h9) rfl dX2_takeOut_8 ?_
      refine gk_alen hx hb hK.1 0 (gk_oa hW hr) rfl (v := Int32.ofNat N) (by show Int32.ofNat (gk_rl r) = _; rw [hNe]) dX2_takeOut_11 ?_
      refine lv_iconst (v := 1) hx hb dX2_takeOut_12 (by decide) ?_
      refine lv_isub hx hb dX2_takeOut_13 ?_
      rw [e1]
      refine lv_icmp_ge (tgt := 37) hx hb dX2_takeOut_14 (by decide) (fun c7 => ?_) (fun c7 => ?_)
      · have h7 : N - 1 ≤ j := (nI_leI (by omega) hjb).mp c7
        refine gk_retv C0 ?_ hW hS dX2_takeOut_37
        unfold gk_out
        congr 1
        funext k
        unfold gk_ot
        rw [hic, hNe]
        by_cases h1 : i0 ≤ k ∧ k + 1 < N
        · rw [if_pos h1, if_pos ⟨h1.1, by omega, h1.2⟩]
        · rw [if_neg h1, if_neg (fun h => h1 ⟨h.1, h.2.2⟩)]
      · have h7 : j < N - 1 := Nat.lt_of_not_le (fun h => c7 (nI_le h hjb))
        refine lv_aload_n hx hb dX2_takeOut_17 rfl (lv_at hl 0 rfl) ?_
        refine gk_get hx hb hts iwX2 hown hK.1 (gk_or hW hr) rfl 0 (by decide) (hts _ fl_X2_13) (fun _ h9 => h9) rfl dX2_takeOut_18 ?_
        refine lv_iload_n hx hb dX2_takeOut_21 rfl (lv_at hl 1 rfl) ?_
        refine lv_aload_n hx hb dX2_takeOut_22 rfl (lv_at hl 0 rfl) ?_
        refine gk_get hx hb hts iwX2 hown hK.1 (gk_or hW hr) rfl 0 (by decide) (hts _ fl_X2_13) (fun _ h9 => h9) rfl dX2_takeOut_23 ?_
        refine lv_iload_n hx hb dX2_takeOut_26 rfl (lv_at hl 1 rfl) ?_
        refine lv_iconst (v := 1) hx hb dX2_takeOut_27 (by decide) ?_
        refine lv_iadd hx hb dX2_takeOut_28 ?_
        rw [nI_1 j]
        refine gk_iald hx hb hK.1 0 (gk_oa hW hr) rfl (by rw [hNe]; exact vp_in_nI (by omega) hN) dX2_takeOut_29 ?_
        refine gk_iast hx hb hK.1 hS (gk_A.in (by omega)) 0 (gk_oa hW hr) rfl (by rw [hNe]; exact vp_in_nI (by omega) hN) dX2_takeOut_30 (fun H locs h1 _ oq hS => ?_)
        have hW := gk_W.setR hW hr h1 oq
        have e2 : gk_r (gk_r σ r (gk_ot (σ.1 r) i0 N j)) r (upd ((gk_r σ r (gk_ot (σ.1 r) i0 N j)).1 r) (nI j).toNatClampNeg ((gk_r σ r (gk_ot (σ.1 r) i0 N j)).1 r (nI (j + 1)).toNatClampNeg)) = gk_r σ r (gk_ot (σ.1 r) i0 N (j + 1)) := by
          rw [gk_rr, gk_rrow, nI_clamp hjb, nI_clamp (show j + 1 < 2 ^ 31 by omega)]
          congr 1
          funext k
          by_cases hk : k = j
          · subst hk
            simp [upd, gk_ot, show k + 1 < N by omega, hij]
            intro _ h9 _
            omega
          · by_cases hk2 : k < j
            · simp [upd, gk_ot, hk, hk2, Nat.lt_succ_of_lt hk2]
            · simp [upd, gk_ot, hk, hk2, show ¬ k < j + 1 by omega]
        rw [e2] at hW
        refine lv_iinc (v := nI (j + 1)) (lv' := [(2, .int (nI (j + 1))), (0, .ref (ad (9 + r)))]) hx hb dX2_takeOut_31 hl (k := 1) rfl (nI_1 j) (by decide) rfl (fun ls hl => ?_)
        refine lv_goto (tgt := 6) hx hb dX2_takeOut_34 (by decide) ?_
        exact ih (j + 1) (by omega) (by omega) (Or.inl (by omega)) _ _ hW hS _ (lv_sub hl [1, 0] rfl)
  refine lv_iload_n hx hb dX2_takeOut_0 rfl (lv_at hl 1 rfl) ?_
  refine lv_iconst (v := 0) hx hb dX2_takeOut_1 (by decide) ?_
  refine va_mmax hx hb (hml.trans hl.1.symm) hown (hts _ ml_X2_7) (hts _ st_J9_max_7cf53) (hts _ in_J9) (hts _ co_J9_max_7cf53) (Nat.le_of_ble_eq_true rfl) (Nat.le_of_ble_eq_true rfl) (Nat.zero_le _) (Nat.zero_le _) dX2_takeOut_2 ?_
  rw [hie]
  refine lv_istore_n (lv' := [(2, .int (nI i0)), (0, .ref (ad (9 + r))), (1, .int i)]) hx hb dX2_takeOut_5 rfl hl (by decide) rfl (fun ls hl => ?_)
  have e3 : gk_r σ r (gk_ot (σ.1 r) i0 N i0) = σ := gk_rid (fun k => by unfold gk_ot; rw [if_neg (by omega)])
  exact loop N i0 (by omega) (Nat.le_refl _) (Or.inr rfl) _ _ (by rw [e3]; exact hW) hS _ (lv_sub hl [1, 0] rfl)
