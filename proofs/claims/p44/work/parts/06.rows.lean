/-! ===== the gate's scalars: what a putfield makes of the world; Row's methods ===== -/
theorem gk_ue {f : Nat → Int32} {k : Nat} {v : Int32} : va_up f k v k = v := by simp [va_up]
section GKP
variable {D : va_G} {cI : ClassId} {ad : Nat → Nat} {σ : gk_C} {H H1 : Heap} {x : Int32}
theorem gk_low {i : Nat} (hi : i < 8) : ∀ w, w < 2 → gk_v ad (va_up σ.2 i x) w = gk_v ad σ.2 w := fun _ _ => gk_vS (Or.inl (by omega))
theorem gk_p0 (h : gk_W D cI ad σ H) (h1 : va_at D vwCl (ad 2, .inr (6, [.int x, .ref (ad (9 + 0)), .ref (ad (9 + 1)), .ref (ad (9 + 2)), .ref (ad (9 + 3))])) H1) (oq : ∀ q, q ≠ ad 2 → H1[q]? = H[q]?) : gk_W D cI ad (gk_s σ 0 x) H1 :=
  gk_W.setO h (k := 2) (by decide) h1 oq (fun j hj hn => by rcases (show j = 0 ∨ j = 1 ∨ j = 2 ∨ j = 3 ∨ j = 4 ∨ j = 5 ∨ j = 6 by omega) with rfl | rfl | rfl | rfl | rfl | rfl | rfl <;> first | rfl | exact absurd rfl hn) (gk_low (by decide))
theorem gk_p1 (h : gk_W D cI ad σ H) (h1 : va_at D vwCl (ad 3, .inr (1, [.int x, .int (σ.2 2), .ref (ad (9 + 4)), .ref (ad (9 + 5))])) H1) (oq : ∀ q, q ≠ ad 3 → H1[q]? = H[q]?) : gk_W D cI ad (gk_s σ 1 x) H1 :=
  gk_W.setO h (k := 3) (by decide) h1 oq (fun j hj hn => by rcases (show j = 0 ∨ j = 1 ∨ j = 2 ∨ j = 3 ∨ j = 4 ∨ j = 5 ∨ j = 6 by omega) with rfl | rfl | rfl | rfl | rfl | rfl | rfl <;> first | rfl | exact absurd rfl hn) (gk_low (by decide))
theorem gk_p2 (h : gk_W D cI ad σ H) (h1 : va_at D vwCl (ad 3, .inr (1, [.int (σ.2 1), .int x, .ref (ad (9 + 4)), .ref (ad (9 + 5))])) H1) (oq : ∀ q, q ≠ ad 3 → H1[q]? = H[q]?) : gk_W D cI ad (gk_s σ 2 x) H1 :=
  gk_W.setO h (k := 3) (by decide) h1 oq (fun j hj hn => by rcases (show j = 0 ∨ j = 1 ∨ j = 2 ∨ j = 3 ∨ j = 4 ∨ j = 5 ∨ j = 6 by omega) with rfl | rfl | rfl | rfl | rfl | rfl | rfl <;> first | rfl | exact absurd rfl hn) (gk_low (by decide))
theorem gk_p3 (h : gk_W D cI ad σ H) (h1 : va_at D vwCl (ad 4, .inr (5, [.int x, .ref (ad (9 + 6)), .ref (ad (9 + 7)), .ref (ad (9 + 8)), .ref (ad (9 + 9)), .ref (ad (9 + 10))])) H1) (oq : ∀ q, q ≠ ad 4 → H1[q]? = H[q]?) : gk_W D cI ad (gk_s σ 3 x) H1 :=
  gk_W.setO h (k := 4) (by decide) h1 oq (fun j hj hn => by rcases (show j = 0 ∨ j = 1 ∨ j = 2 ∨ j = 3 ∨ j = 4 ∨ j = 5 ∨ j = 6 by omega) with rfl | rfl | rfl | rfl | rfl | rfl | rfl <;> first | rfl | exact absurd rfl hn) (gk_low (by decide))
theorem gk_p4 (h : gk_W D cI ad σ H) (h1 : va_at D vwCl (ad 5, .inr (3, [.int x, .ref (ad (9 + 11)), .ref (ad (9 + 12)), .ref (ad (9 + 13)), .ref (ad (9 + 14)), .ref (ad (9 + 15)), .ref (ad (9 + 16)), .ref (ad (9 + 17)), .ref (ad (9 + 18)), .ref (ad (9 + 19))])) H1) (oq : ∀ q, q ≠ ad 5 → H1[q]? = H[q]?) : gk_W D cI ad (gk_s σ 4 x) H1 :=
  gk_W.setO h (k := 5) (by decide) h1 oq (fun j hj hn => by rcases (show j = 0 ∨ j = 1 ∨ j = 2 ∨ j = 3 ∨ j = 4 ∨ j = 5 ∨ j = 6 by omega) with rfl | rfl | rfl | rfl | rfl | rfl | rfl <;> first | rfl | exact absurd rfl hn) (gk_low (by decide))
theorem gk_p5 (h : gk_W D cI ad σ H) (h1 : va_at D vwCl (ad 6, .inr (0, [.int x, .ref (ad (9 + 20)), .ref (ad (9 + 21)), .ref (ad (9 + 22)), .ref (ad (9 + 23)), .ref (ad (9 + 24)), .ref (ad (9 + 25))])) H1) (oq : ∀ q, q ≠ ad 6 → H1[q]? = H[q]?) : gk_W D cI ad (gk_s σ 5 x) H1 :=
  gk_W.setO h (k := 6) (by decide) h1 oq (fun j hj hn => by rcases (show j = 0 ∨ j = 1 ∨ j = 2 ∨ j = 3 ∨ j = 4 ∨ j = 5 ∨ j = 6 by omega) with rfl | rfl | rfl | rfl | rfl | rfl | rfl <;> first | rfl | exact absurd rfl hn) (gk_low (by decide))
theorem gk_p6 (h : gk_W D cI ad σ H) (h1 : va_at D vwCl (ad 1, .inr (4, [.ref (ad 2), .ref (ad 3), .ref (ad 4), .ref (ad 5), .ref (ad 6), .int x, .int (σ.2 7)])) H1) (oq : ∀ q, q ≠ ad 1 → H1[q]? = H[q]?) : gk_W D cI ad (gk_s σ 6 x) H1 :=
  gk_W.setO h (k := 1) (by decide) h1 oq (fun j hj hn => by rcases (show j = 0 ∨ j = 1 ∨ j = 2 ∨ j = 3 ∨ j = 4 ∨ j = 5 ∨ j = 6 by omega) with rfl | rfl | rfl | rfl | rfl | rfl | rfl <;> first | rfl | exact absurd rfl hn) (gk_low (by decide))
theorem gk_p7 (h : gk_W D cI ad σ H) (h1 : va_at D vwCl (ad 1, .inr (4, [.ref (ad 2), .ref (ad 3), .ref (ad 4), .ref (ad 5), .ref (ad 6), .int (σ.2 6), .int x])) H1) (oq : ∀ q, q ≠ ad 1 → H1[q]? = H[q]?) : gk_W D cI ad (gk_s σ 7 x) H1 :=
  gk_W.setO h (k := 1) (by decide) h1 oq (fun j hj hn => by rcases (show j = 0 ∨ j = 1 ∨ j = 2 ∨ j = 3 ∨ j = 4 ∨ j = 5 ∨ j = 6 by omega) with rfl | rfl | rfl | rfl | rfl | rfl | rfl <;> first | rfl | exact absurd rfl hn) (gk_low (by decide))
abbrev gk_vl (ad : Nat → Nat) (v : Nat) (a b c d : Int32) : List Value := [.ref (ad 1), .ref (ad (9 + (26 + 6 * v))), .ref (ad (9 + (27 + 6 * v))), .ref (ad (9 + (28 + 6 * v))), .ref (ad (9 + (29 + 6 * v))), .ref (ad (9 + (30 + 6 * v))), .ref (ad (9 + (31 + 6 * v))), .int a, .int b, .int c, .int d]
theorem gk_vup {S : Nat → Int32} {v : Nat} {a b c d : Int32} (ha : S (8 + 4 * v) = a) (hb : S (9 + 4 * v) = b) (hc : S (10 + 4 * v) = c) (hd : S (11 + 4 * v) = d) : gk_v ad S v = .inr (7, gk_vl ad v a b c d) := by subst ha; subst hb; subst hc; subst hd; rfl
theorem gk_pvweighing (h : gk_W D cI ad σ H) {v : Nat} (hv : v < 2) (h1 : va_at D vwCl (ad (7 + v), .inr (7, gk_vl ad v x (σ.2 (9 + 4 * v)) (σ.2 (10 + 4 * v)) (σ.2 (11 + 4 * v)))) H1) (oq : ∀ q, q ≠ ad (7 + v) → H1[q]? = H[q]?) : gk_W D cI ad (gk_s σ (8 + 4 * v) x) H1 :=
  gk_W.setV h hv (by rw [gk_vup gk_ue (va_up_ne _ _ (by omega)) (va_up_ne _ _ (by omega)) (va_up_ne _ _ (by omega))]; exact h1) oq (fun j _ => gk_oS (by omega)) (fun w _ hn => gk_vS (by omega))
theorem gk_pvlive (h : gk_W D cI ad σ H) {v : Nat} (hv : v < 2) (h1 : va_at D vwCl (ad (7 + v), .inr (7, gk_vl ad v (σ.2 (8 + 4 * v)) x (σ.2 (10 + 4 * v)) (σ.2 (11 + 4 * v)))) H1) (oq : ∀ q, q ≠ ad (7 + v) → H1[q]? = H[q]?) : gk_W D cI ad (gk_s σ (9 + 4 * v) x) H1 :=
  gk_W.setV h hv (by rw [gk_vup (va_up_ne _ _ (by omega)) gk_ue (va_up_ne _ _ (by omega)) (va_up_ne _ _ (by omega))]; exact h1) oq (fun j _ => gk_oS (by omega)) (fun w _ hn => gk_vS (by omega))
theorem gk_pvallowing (h : gk_W D cI ad σ H) {v : Nat} (hv : v < 2) (h1 : va_at D vwCl (ad (7 + v), .inr (7, gk_vl ad v (σ.2 (8 + 4 * v)) (σ.2 (9 + 4 * v)) x (σ.2 (11 + 4 * v)))) H1) (oq : ∀ q, q ≠ ad (7 + v) → H1[q]? = H[q]?) : gk_W D cI ad (gk_s σ (10 + 4 * v) x) H1 :=
  gk_W.setV h hv (by rw [gk_vup (va_up_ne _ _ (by omega)) (va_up_ne _ _ (by omega)) gk_ue (va_up_ne _ _ (by omega))]; exact h1) oq (fun j _ => gk_oS (by omega)) (fun w _ hn => gk_vS (by omega))
theorem gk_pvgood (h : gk_W D cI ad σ H) {v : Nat} (hv : v < 2) (h1 : va_at D vwCl (ad (7 + v), .inr (7, gk_vl ad v (σ.2 (8 + 4 * v)) (σ.2 (9 + 4 * v)) (σ.2 (10 + 4 * v)) x)) H1) (oq : ∀ q, q ≠ ad (7 + v) → H1[q]? = H[q]?) : gk_W D cI ad (gk_s σ (11 + 4 * v) x) H1 :=
  gk_W.setV h hv (by rw [gk_vup (va_up_ne _ _ (by omega)) (va_up_ne _ _ (by omega)) (va_up_ne _ _ (by omega)) gk_ue]; exact h1) oq (fun j _ => gk_oS (by omega)) (fun w _ hn => gk_vS (by omega))
end GKP
def gk_z (x : Int32) : Prop := narrow .boolean (.int x) = .int x
theorem gk_len {r : Nat} : gk_rl r < 2 ^ 31 := by
  rcases Nat.lt_or_ge r 39 with h | h
  · have : ∀ r, r < 39 → gk_rl r < 2 ^ 31 := by decide +kernel
    exact this r h
  · unfold gk_rl
    rw [List.getD_eq_getElem?_getD, List.getElem?_eq_none (show gk_rls.length ≤ r from Nat.le_trans (Nat.le_of_eq (by decide)) h)]
    decide
theorem gk_inR {i : Int32} {n : Nat} (hn : n < 2 ^ 31) (h0 : ¬ i < 0) (h1 : ¬ Int32.ofNat n ≤ i) : vp_in i n := by
  obtain ⟨j, hj, rfl⟩ := nI_of h0
  refine vp_in_nI ?_ hn
  exact Nat.lt_of_not_le (fun h => h1 (nI_le h hj))
theorem gk_outR {i : Int32} {n : Nat} (hn : n < 2 ^ 31) (h : i < 0 ∨ Int32.ofNat n ≤ i) : i < 0 ∨ n ≤ i.toNatClampNeg := by
  rcases h with h | h
  · exact Or.inl h
  · by_cases h0 : i < 0
    · exact Or.inl h0
    · obtain ⟨j, hj, rfl⟩ := nI_of h0
      refine Or.inr ?_
      rw [nI_clamp hj]
      exact (nI_leI hn hj).mp h
/-! Row.at, Row.put -/
abbrev rmX2_at : Room := { frames := 0, cells := 0, slots := 0, locals := 0 }
set_option maxHeartbeats 4000000 in
set_option maxRecDepth 100000 in
theorem c_X2_at (l : Launch) (D : va_G) (cI cZ cG cL : ClassId) (ad : Nat → Nat) {σ : gk_C} {r : Nat} {i : Int32} (hr : r < 39) {sz : Nat} : Met l yX2_at wsX2_at rmX2_at (gk_Pc D cI cZ cG cL ad [.ref (ad (9 + r)), .int i] sz σ) (va_Qi (fun x u => u = σ ∧ x = gk_at σ r i) (gk_B D cI ad) (gk_A ad sz)) 0 0 (gk_A ad sz) := by
  refine Met.ofW (cc := cX2_at) (maxL := 2) (ret := (some .int)) (by decide) rfl ?_
  intro p e s m args below meth c s₁ B hml0 hv0
  obtain ⟨rfl, hsz, hW, hK⟩ := hv0
  subst hsz
  have C0 : gk_F p s m ([.ref (ad (9 + r)), .int i] : List Value).toArray meth c cX2_at 2 (some .int) RX2 := ⟨B.exec, B.bytes, hml0, findClass_of_methodNamed B.named, fun w hw => atoms_spec (ws := wsX2_at) B.pre w (List.mem_cons_of_mem _ hw), B.returns, B.notSynchronized⟩
  obtain ⟨hx, hb, hml, hown, hts, hr0, hlocks⟩ := id C0
  have hS : va_S (gk_A ad s.heap.size) s.heap s.heap [] := va_S.rf
  have hl := lv_entry ([.ref (ad (9 + r)), .int i]) (n := 2) (Nat.le_of_ble_eq_true rfl)
  rw [lg_entry_eq]
  generalize (lg_sl ([.ref (ad (9 + r)), .int i]) ++ List.replicate (2 - (lg_sl ([.ref (ad (9 + r)), .int i])).length) Slot.unset).toArray = ls at hl ⊢
  have hl : lv_has ls 2 [(0, .ref (ad (9 + r))), (1, .int i)] := hl
  show W p l e rmX2_at s m _ below meth c s.heap [] 0 0 _ _
  refine lv_iload_n hx hb dX2_at_0 rfl (lv_at hl 1 rfl) ?_
  refine lv_if_lt (tgt := 22) hx hb dX2_at_1 (by decide) (fun c1 => ?_) (fun c1 => ?_)
  · refine lv_iconst (v := 0) hx hb dX2_at_22 (by decide) ?_
    exact gk_reti C0 ⟨rfl, (if_pos (Or.inl c1)).symm⟩ hW hS dX2_at_23
  · refine lv_iload_n hx hb dX2_at_4 rfl (lv_at hl 1 rfl) ?_
    refine lv_aload_n hx hb dX2_at_5 rfl (lv_at hl 0 rfl) ?_
    refine gk_get hx hb hts iwX2 hown hK.1 (gk_or hW hr) rfl 0 (by decide) (hts _ fl_X2_13) (fun _ h9 => h9) rfl dX2_at_6 ?_
    refine gk_alen hx hb hK.1 0 (gk_oa hW hr) rfl rfl dX2_at_9 ?_
    refine lv_icmp_ge (tgt := 22) hx hb dX2_at_10 (by decide) (fun c10 => ?_) (fun c10 => ?_)
    · refine lv_iconst (v := 0) hx hb dX2_at_22 (by decide) ?_
      exact gk_reti C0 ⟨rfl, (if_pos (gk_outR gk_len (Or.inr c10))).symm⟩ hW hS dX2_at_23
    · have hin : vp_in i (gk_rl r) := gk_inR gk_len c1 c10
      refine lv_aload_n hx hb dX2_at_13 rfl (lv_at hl 0 rfl) ?_
      refine gk_get hx hb hts iwX2 hown hK.1 (gk_or hW hr) rfl 0 (by decide) (hts _ fl_X2_13) (fun _ h9 => h9) rfl dX2_at_14 ?_
      refine lv_iload_n hx hb dX2_at_17 rfl (lv_at hl 1 rfl) ?_
      refine gk_iald hx hb hK.1 0 (gk_oa hW hr) rfl hin dX2_at_18 ?_
      refine lv_goto (tgt := 23) hx hb dX2_at_19 (by decide) ?_
      exact gk_reti C0 ⟨rfl, (if_neg hin).symm⟩ hW hS dX2_at_23
abbrev rmX2_put : Room := { frames := 0, cells := 0, slots := 0, locals := 0 }
set_option maxHeartbeats 4000000 in
set_option maxRecDepth 100000 in
theorem c_X2_put (l : Launch) (D : va_G) (cI cZ cG cL : ClassId) (ad : Nat → Nat) {σ : gk_C} {r : Nat} {i x : Int32} (hr : r < 39) {sz : Nat} : Met l yX2_put wsX2_put rmX2_put (gk_Pc D cI cZ cG cL ad [.ref (ad (9 + r)), .int i, .int x] sz σ) (va_Qv (fun u => u = gk_put σ r i x) (gk_B D cI ad) (gk_A ad sz)) 0 0 (gk_A ad sz) := by
  refine Met.ofW (cc := cX2_put) (maxL := 3) (ret := none) (by decide) rfl ?_
  intro p e s m args below meth c s₁ B hml0 hv0
  obtain ⟨rfl, hsz, hW, hK⟩ := hv0
  subst hsz
  have C0 : gk_F p s m ([.ref (ad (9 + r)), .int i, .int x] : List Value).toArray meth c cX2_put 3 none RX2 := ⟨B.exec, B.bytes, hml0, findClass_of_methodNamed B.named, fun w hw => atoms_spec (ws := wsX2_put) B.pre w (List.mem_cons_of_mem _ hw), B.returns, B.notSynchronized⟩
  obtain ⟨hx, hb, hml, hown, hts, hr0, hlocks⟩ := id C0
  have hS : va_S (gk_A ad s.heap.size) s.heap s.heap [] := va_S.rf
  have hl := lv_entry ([.ref (ad (9 + r)), .int i, .int x]) (n := 3) (Nat.le_of_ble_eq_true rfl)
  rw [lg_entry_eq]
  generalize (lg_sl ([.ref (ad (9 + r)), .int i, .int x]) ++ List.replicate (3 - (lg_sl ([.ref (ad (9 + r)), .int i, .int x])).length) Slot.unset).toArray = ls at hl ⊢
  have hl : lv_has ls 3 [(0, .ref (ad (9 + r))), (1, .int i), (2, .int x)] := hl
  show W p l e rmX2_put s m _ below meth c s.heap [] 0 0 _ _
  refine lv_iload_n hx hb dX2_put_0 rfl (lv_at hl 1 rfl) ?_
  refine lv_if_lt (tgt := 20) hx hb dX2_put_1 (by decide) (fun c1 => ?_) (fun c1 => ?_)
  · exact gk_retv C0 (if_pos (Or.inl c1)).symm hW hS dX2_put_20
  · refine lv_iload_n hx hb dX2_put_4 rfl (lv_at hl 1 rfl) ?_
    refine lv_aload_n hx hb dX2_put_5 rfl (lv_at hl 0 rfl) ?_
    refine gk_get hx hb hts iwX2 hown hK.1 (gk_or hW hr) rfl 0 (by decide) (hts _ fl_X2_13) (fun _ h9 => h9) rfl dX2_put_6 ?_
    refine gk_alen hx hb hK.1 0 (gk_oa hW hr) rfl rfl dX2_put_9 ?_
    refine lv_icmp_ge (tgt := 20) hx hb dX2_put_10 (by decide) (fun c10 => ?_) (fun c10 => ?_)
    · exact gk_retv C0 (if_pos (gk_outR gk_len (Or.inr c10))).symm hW hS dX2_put_20
    · have hin : vp_in i (gk_rl r) := gk_inR gk_len c1 c10
      refine lv_aload_n hx hb dX2_put_13 rfl (lv_at hl 0 rfl) ?_
      refine gk_get hx hb hts iwX2 hown hK.1 (gk_or hW hr) rfl 0 (by decide) (hts _ fl_X2_13) (fun _ h9 => h9) rfl dX2_put_14 ?_
      refine lv_iload_n hx hb dX2_put_17 rfl (lv_at hl 1 rfl) ?_
      refine lv_iload_n hx hb dX2_put_18 rfl (lv_at hl 2 rfl) ?_
      refine gk_iast hx hb hK.1 hS (gk_A.in (by omega)) 0 (gk_oa hW hr) rfl hin dX2_put_19 (fun H locs h1 _ oq hS => ?_)
      have hW := gk_W.setR hW hr h1 oq
      exact gk_retv C0 (if_neg hin).symm hW hS dX2_put_20
