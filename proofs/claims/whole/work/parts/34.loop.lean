/-! ===== the law: its loop and its start ===== -/
theorem ac_long : Cond.arrayClass .long ∈ gk_BG := by decide +kernel
/-- the 41 equivalences -/
def lo_H (I : gk_C → gk_C → Prop) : Prop := (∀ (σ μ : gk_C) (o : Int64), I σ μ → ∀ (a0 : Int32) (a1 : Int32), w_L_addUser σ o a0 a1 (fun k σ1 o1 => w_X9_addUser μ a0 a1 (fun r μ1 => μ1.2 0 = k ∧ (k = 0 → o1 = r.toInt64) ∧ I σ1 μ1))) ∧ (∀ (σ μ : gk_C) (o : Int64), I σ μ → w_L_addRole σ o  (fun k σ1 o1 => w_X9_addRole μ  (fun r μ1 => μ1.2 0 = k ∧ (k = 0 → o1 = r.toInt64) ∧ I σ1 μ1))) ∧ (∀ (σ μ : gk_C) (o : Int64), I σ μ → ∀ (a0 : Int32), w_L_addResource σ o a0 (fun k σ1 o1 => w_X9_addResource μ a0 (fun r μ1 => μ1.2 0 = k ∧ (k = 0 → o1 = r.toInt64) ∧ I σ1 μ1))) ∧ (∀ (σ μ : gk_C) (o : Int64), I σ μ → ∀ (a0 : Int32) (a1 : Int32) (a2 : Int32), (a2 = 0 ∨ a2 = 1) → w_L_setRole σ o a0 a1 a2 (fun k σ1 o1 => w_X9_setRole μ a0 a1 a2 (fun r μ1 => μ1.2 0 = k ∧ (k = 0 → (¬ r = 0 → o1 = 1) ∧ (r = 0 → o1 = 0)) ∧ I σ1 μ1))) ∧ (∀ (σ μ : gk_C) (o : Int64), I σ μ → ∀ (a0 : Int32) (a1 : Int32) (a2 : Int32), (a2 = 0 ∨ a2 = 1) → w_L_setHolds σ o a0 a1 a2 (fun k σ1 o1 => w_X9_setHolds μ a0 a1 a2 (fun r μ1 => μ1.2 0 = k ∧ (k = 0 → (¬ r = 0 → o1 = 1) ∧ (r = 0 → o1 = 0)) ∧ I σ1 μ1))) ∧ (∀ (σ μ : gk_C) (o : Int64), I σ μ → ∀ (a0 : Int32) (a1 : Int32), w_L_setApart σ o a0 a1 (fun k σ1 o1 => w_X9_setApart μ a0 a1 (fun r μ1 => μ1.2 0 = k ∧ (k = 0 → o1 = r.toInt64) ∧ I σ1 μ1))) ∧ (∀ (σ μ : gk_C) (o : Int64), I σ μ → ∀ (a0 : Int32) (a1 : Int32) (a2 : Int32), w_L_setUser σ o a0 a1 a2 (fun k σ1 o1 => w_X9_setUser μ a0 a1 a2 (fun r μ1 => μ1.2 0 = k ∧ (k = 0 → o1 = r.toInt64) ∧ I σ1 μ1))) ∧ (∀ (σ μ : gk_C) (o : Int64), I σ μ → ∀ (a0 : Int32) (a1 : Int32), w_L_setLabel σ o a0 a1 (fun k σ1 o1 => w_X9_setLabel μ a0 a1 (fun r μ1 => μ1.2 0 = k ∧ (k = 0 → o1 = r.toInt64) ∧ I σ1 μ1))) ∧ (∀ (σ μ : gk_C) (o : Int64), I σ μ → ∀ (a0 : Int32) (a1 : Int32) (a2 : Int32), w_L_setWall σ o a0 a1 a2 (fun k σ1 o1 => w_X9_setWall μ a0 a1 a2 (fun r μ1 => μ1.2 0 = k ∧ (k = 0 → (¬ r = 0 → o1 = 1) ∧ (r = 0 → o1 = 0)) ∧ I σ1 μ1))) ∧ (∀ (σ μ : gk_C), I σ μ → w_X8_users σ (fun r => w_X9_users μ (fun r1 μ1 => r = r1 ∧ I σ μ1))) ∧ (∀ (σ μ : gk_C), I σ μ → w_X8_roles σ (fun r => w_X9_roles μ (fun r1 μ1 => r = r1 ∧ I σ μ1))) ∧ (∀ (σ μ : gk_C), I σ μ → w_X8_resources σ (fun r => w_X9_resources μ (fun r1 μ1 => r = r1 ∧ I σ μ1))) ∧ (∀ (σ μ : gk_C) (o : Int64), I σ μ → ∀ (a0 : Int32) (a1 : Int32), w_L_near σ o a0 a1 (fun k σ1 o1 => w_X9_near μ a0 a1 (fun r μ1 => μ1.2 0 = k ∧ (k = 0 → o1 = r.toInt64) ∧ I σ1 μ1))) ∧ (∀ (σ μ : gk_C) (o : Int64), I σ μ → ∀ (a0 : Int32) (a1 : Int32), w_L_far σ o a0 a1 (fun k σ1 o1 => w_X9_far μ a0 a1 (fun r μ1 => μ1.2 0 = k ∧ (k = 0 → o1 = r.toInt64) ∧ I σ1 μ1))) ∧ (∀ (σ μ : gk_C) (o : Int64), I σ μ → ∀ (a0 : Int32) (a1 : Int32) (a2 : Int32) (a3 : Int32), (a0 = 0 ∨ a0 = 1) → w_L_addRule σ o a0 a1 a2 a3 (fun k σ1 o1 => w_X9_addRule μ a0 a1 a2 a3 (fun r μ1 => μ1.2 0 = k ∧ (k = 0 → o1 = r.toInt64) ∧ I σ1 μ1))) ∧ (∀ (σ μ : gk_C) (o : Int64), I σ μ → ∀ (a0 : Int32) (a1 : Int32) (a2 : Int32), (a1 = 0 ∨ a1 = 1) → w_L_setRule σ o a0 a1 a2 (fun k σ1 o1 => w_X9_setRule μ a0 a1 a2 (fun r μ1 => μ1.2 0 = k ∧ (k = 0 → o1 = r.toInt64) ∧ I σ1 μ1))) ∧ (∀ (σ μ : gk_C) (o : Int64), I σ μ → ∀ (a0 : Int32) (a1 : Int32) (a2 : Int32) (a3 : Int32), w_L_setTerms σ o a0 a1 a2 a3 (fun k σ1 o1 => w_X9_setTerms μ a0 a1 a2 a3 (fun r μ1 => μ1.2 0 = k ∧ (k = 0 → o1 = r.toInt64) ∧ I σ1 μ1))) ∧ (∀ (σ μ : gk_C) (o : Int64), I σ μ → ∀ (a0 : Int32), w_L_dropRule σ o a0 (fun k σ1 o1 => w_X9_dropRule μ a0 (fun r μ1 => μ1.2 0 = k ∧ (k = 0 → o1 = r.toInt64) ∧ I σ1 μ1))) ∧ (∀ (σ μ : gk_C), I σ μ → w_X8_rules σ (fun r => w_X9_rules μ (fun r1 μ1 => r = r1 ∧ I σ μ1))) ∧ (∀ (σ μ : gk_C) (o : Int64), I σ μ → ∀ (a0 : Int32), w_L_setWeighing σ o a0 (fun k σ1 o1 => w_X9_setWeighing μ a0 (fun r μ1 => μ1.2 0 = k ∧ (k = 0 → o1 = r.toInt64) ∧ I σ1 μ1))) ∧ (∀ (σ μ : gk_C) (o : Int64), I σ μ → ∀ (a0 : Int32) (a1 : Int32) (a2 : Int32) (a3 : Int32), w_L_matches σ o a0 a1 a2 a3 (fun k σ1 o1 => w_X9_matches μ a0 a1 a2 a3 (fun r μ1 => μ1.2 0 = k ∧ (k = 0 → (¬ r = 0 → o1 = 1) ∧ (r = 0 → o1 = 0)) ∧ I σ1 μ1))) ∧ (∀ (σ μ : gk_C) (o : Int64), I σ μ → ∀ (a0 : Int32), w_L_goOn σ o a0 (fun k σ1 o1 => w_X9_goOn μ a0 (fun r μ1 => μ1.2 0 = k ∧ (k = 0 → o1 = r.toInt64) ∧ I σ1 μ1))) ∧ (∀ (σ μ : gk_C), I σ μ → w_X8_clock σ (fun r => w_X9_clock μ (fun r1 μ1 => r = r1 ∧ I σ μ1))) ∧ (∀ (σ μ : gk_C) (o : Int64), I σ μ → ∀ (a0 : Int32) (a1 : Int32) (a2 : Int32) (a3 : Int32) (a4 : Int32) (a5 : Int32), w_L_grant σ o a0 a1 a2 a3 a4 a5 (fun k σ1 o1 => w_X9_grant μ a0 a1 a2 a3 a4 a5 (fun r μ1 => μ1.2 0 = k ∧ (k = 0 → o1 = r.toInt64) ∧ I σ1 μ1))) ∧ (∀ (σ μ : gk_C) (o : Int64), I σ μ → ∀ (a0 : Int32), w_L_revoke σ o a0 (fun k σ1 o1 => w_X9_revoke μ a0 (fun r μ1 => μ1.2 0 = k ∧ (k = 0 → (¬ r = 0 → o1 = 1) ∧ (r = 0 → o1 = 0)) ∧ I σ1 μ1))) ∧ (∀ (σ μ : gk_C), I σ μ → w_X8_grants σ (fun r => w_X9_grants μ (fun r1 μ1 => r = r1 ∧ I σ μ1))) ∧ (∀ (σ μ : gk_C) (o : Int64), I σ μ → ∀ (a0 : Int32), w_L_isGood σ o a0 (fun k σ1 o1 => w_X9_isGood μ a0 (fun r μ1 => μ1.2 0 = k ∧ (k = 0 → (¬ r = 0 → o1 = 1) ∧ (r = 0 → o1 = 0)) ∧ I σ1 μ1))) ∧ (∀ (σ μ : gk_C) (o : Int64), I σ μ → ∀ (a0 : Int32) (a1 : Int32) (a2 : Int32), w_L_decide σ o a0 a1 a2 (fun k σ1 o1 => w_X9_decide μ a0 a1 a2 (fun r μ1 => μ1.2 0 = k ∧ (k = 0 → o1 = r.toInt64) ∧ I σ1 μ1))) ∧ (∀ (σ μ : gk_C) (o : Int64), I σ μ → ∀ (a0 : Int32) (a1 : Int32) (a2 : Int32), w_L_why σ o a0 a1 a2 (fun k σ1 o1 => w_X9_why μ a0 a1 a2 (fun r μ1 => μ1.2 0 = k ∧ (k = 0 → o1 = r.toInt64) ∧ I σ1 μ1))) ∧ (∀ (σ μ : gk_C) (o : Int64), I σ μ → ∀ (a0 : Int32) (a1 : Int32) (a2 : Int32), w_L_access σ o a0 a1 a2 (fun k σ1 o1 => w_X9_access μ a0 a1 a2 (fun r μ1 => μ1.2 0 = k ∧ (k = 0 → o1 = r.toInt64) ∧ I σ1 μ1))) ∧ (∀ (σ μ : gk_C) (o : Int64), I σ μ → ∀ (a0 : Int32), w_L_counted σ o a0 (fun k σ1 o1 => w_X9_counted μ a0 (fun r μ1 => μ1.2 0 = k ∧ (k = 0 → o1 = r.toInt64) ∧ I σ1 μ1))) ∧ (∀ (σ μ : gk_C) (o : Int64), I σ μ → ∀ (a0 : Int32) (a1 : Int32), w_L_done σ o a0 a1 (fun k σ1 o1 => w_X9_done μ a0 a1 (fun r μ1 => μ1.2 0 = k ∧ (k = 0 → o1 = r.toInt64) ∧ I σ1 μ1))) ∧ (∀ (σ μ : gk_C) (o : Int64), I σ μ → ∀ (a0 : Int32) (a1 : Int32), w_L_who σ o a0 a1 (fun k σ1 o1 => w_X9_who μ a0 a1 (fun r μ1 => μ1.2 0 = k ∧ (k = 0 → o1 = r.toInt64) ∧ I σ1 μ1))) ∧ (∀ (σ μ : gk_C) (o : Int64), I σ μ → ∀ (a0 : Int32) (a1 : Int32), w_L_reach σ o a0 a1 (fun k σ1 o1 => w_X9_reach μ a0 a1 (fun r μ1 => μ1.2 0 = k ∧ (k = 0 → o1 = r.toInt64) ∧ I σ1 μ1))) ∧ (∀ (σ μ : gk_C) (o : Int64), I σ μ → ∀ (a0 : Int32) (a1 : Int32) (a2 : Int32), w_L_rolesNeeded σ o a0 a1 a2 (fun k σ1 o1 => w_X9_rolesNeeded μ a0 a1 a2 (fun r μ1 => μ1.2 0 = k ∧ (k = 0 → o1 = r.toInt64) ∧ I σ1 μ1))) ∧ (∀ (σ μ : gk_C), I σ μ → w_X8_contradictions σ (fun r σ1 => w_X9_contradictions μ (fun r1 μ1 => r = r1 ∧ I σ1 μ1))) ∧ (∀ (σ μ : gk_C) (o : Int64), I σ μ → ∀ (a0 : Int32), w_L_isIdle σ o a0 (fun k σ1 o1 => w_X9_isIdle μ a0 (fun r μ1 => μ1.2 0 = k ∧ (k = 0 → (¬ r = 0 → o1 = 1) ∧ (r = 0 → o1 = 0)) ∧ I σ1 μ1))) ∧ (∀ (σ μ : gk_C) (o : Int64), I σ μ → ∀ (a0 : Int32), w_L_wouldDiffer σ o a0 (fun k σ1 o1 => w_X9_wouldDiffer μ a0 (fun r μ1 => μ1.2 0 = k ∧ (k = 0 → o1 = r.toInt64) ∧ I σ1 μ1))) ∧ (∀ (σ μ : gk_C) (o : Int64), I σ μ → ∀ (a0 : Int32) (a1 : Int32), w_L_wouldGain σ o a0 a1 (fun k σ1 o1 => w_X9_wouldGain μ a0 a1 (fun r μ1 => μ1.2 0 = k ∧ (k = 0 → o1 = r.toInt64) ∧ I σ1 μ1))) ∧ (∀ (σ μ : gk_C), I σ μ → w_X8_openness σ (fun r σ1 => w_X9_openness μ (fun r1 μ1 => (Op.cmpValue (FP.dcmp r r1) .l = 0 ∨ (¬ Op.cmpValue (FP.dcmp r r) .l = 0 ∧ ¬ Op.cmpValue (FP.dcmp r1 r1) .l = 0)) ∧ I σ1 μ1))) ∧ (∀ (σ μ : gk_C), I σ μ → w_X8_digest σ (fun r σ1 => w_X9_digest μ (fun r1 μ1 => r = r1 ∧ I σ1 μ1)))
theorem lo_int {L j : Nat} (hL : L ≤ 3584) (hj : 7 * j ≤ 3584) (h : ¬ nI L - 7 < nI (7 * j)) : 7 * j + 7 ≤ L := by
  have e1 : (nI L).toInt = (L : Int) := Int32.toInt_ofNat_of_lt (by omega)
  have e2 : (nI (7 * j)).toInt = ((7 * j : Nat) : Int) := Int32.toInt_ofNat_of_lt (by omega)
  have e3 : (nI L - 7).toInt = (L : Int) - 7 := by
    rw [Int32.toInt_sub, e1, show (7 : Int32).toInt = 7 by decide]
    simp only [Int.bmod]
    omega
  rw [Int32.lt_iff_toInt_lt, e3, e2] at h
  omega
theorem lo_cdI {L j : Nat} (hL : L ≤ 3584) (h : 7 * j + 7 ≤ L) : lo_cd L (nI (7 * j)) := by
  intro t ht
  rcases ht with rfl | rfl | rfl | rfl | rfl | rfl | rfl
  · have e : nI (7 * j) + 0 = nI (7 * j + 0) := nI_add (7 * j) 0
    rw [e]; exact vp_in_nI (by omega) (by omega)
  · have e : nI (7 * j) + 1 = nI (7 * j + 1) := nI_add (7 * j) 1
    rw [e]; exact vp_in_nI (by omega) (by omega)
  · have e : nI (7 * j) + 2 = nI (7 * j + 2) := nI_add (7 * j) 2
    rw [e]; exact vp_in_nI (by omega) (by omega)
  · have e : nI (7 * j) + 3 = nI (7 * j + 3) := nI_add (7 * j) 3
    rw [e]; exact vp_in_nI (by omega) (by omega)
  · have e : nI (7 * j) + 4 = nI (7 * j + 4) := nI_add (7 * j) 4
    rw [e]; exact vp_in_nI (by omega) (by omega)
  · have e : nI (7 * j) + 5 = nI (7 * j + 5) := nI_add (7 * j) 5
    rw [e]; exact vp_in_nI (by omega) (by omega)
  · have e : nI (7 * j) + 6 = nI (7 * j + 6) := nI_add (7 * j) 6
    rw [e]; exact vp_in_nI (by omega) (by omega)
def lo_End (cs : List Choice) (p : Program) (l : Launch) (e : Env) (R : Room) (s : State) (m : MethodId) (below : List Frame) (meth : Method) (c : Code) (b k n : Nat) (Q : State → Prop) : Prop := ∀ (H : Heap) (ls : Array Slot) (d1 : Drawn), s.drawn.sameBut d1 cs → W p l e R (s.setDrawn d1) m #[Value.ref b] below meth c H [] k n Q (F0 m 2760 ls [.int 1])
set_option maxHeartbeats 4000000 in
set_option maxRecDepth 100000 in
theorem lo_loop {p : Program} {l : Launch} {e : Env} {s : State} {m : MethodId} {below : List Frame} {meth : Method} {c : Code} {D : va_G} {cI cZ cG cL : ClassId} {ad am : Nat → Nat} {q1 q2 q3 oa b L : Nat} {xs : Nat → Int32} (C0 : lo_C p s m meth c l D cI cZ cG cL ad am q1 q2 q3 oa b L xs) {cs : List Choice} (hnb : nanBits ∈ cs) {I : gk_C → gk_C → Prop} {Q : State → Prop} (hH : lo_H I) (hL : L ≤ 3584) {k0 n0 : Nat} (hk : k0 + 60 * 513 ≤ room_1.cells) (hn : n0 + 6000 * 513 ≤ room_1.slots) (hE : lo_End cs p l e room_1 s m below meth c b (k0 + 60 * 513) (n0 + 6000 * 513) Q) :
    ∀ (f j : Nat), f + j = 513 → ∀ {σ μ : gk_C} {o : Int64} {H : Heap} {locs : List Loc} {d0 : Drawn} {ls : Array Slot}, I σ μ → lo_W D cI cZ cL ad am oa σ μ o H → va_S (lo_A s.heap.size) s.heap H locs → s.drawn.sameBut d0 cs → lv_has ls 9 [(0, .ref b), (1, .ref (ad 0)), (2, .ref (am 38)), (3, .ref oa), (4, .int (nI (7 * j)))] → W p l e room_1 (s.setDrawn d0) m #[Value.ref b] below meth c H locs (k0 + 60 * j) (n0 + 6000 * j) Q (F0 m 23 ls []) := by
  have C1 := C0
  obtain ⟨hx, hb, hml, hown, hts0, hr, hlocks, hfl, hK0, hY0, hN0, hD, hX0, hbl⟩ := C0
  intro f
  induction f with
  | zero =>
    intro j hj σ μ o H locs d0 ls hI hW hS hd0 hl
    have hX : va_X b L xs (s.setDrawn d0) s.heap := hX0
    refine lv_iload hx hb dL_law_23 (lv_at hl 4 rfl) ?_
    refine lv_aload_n hx hb dL_law_25 rfl (lv_at hl 0 rfl) ?_
    refine lo_xlen hx hb hX hbl hS dL_law_26 ?_
    refine lv_bipush (v := 7) hx hb dL_law_27 (by decide) ?_
    refine lv_isub hx hb dL_law_29 ?_
    refine lv_icmp_gt (tgt := 2759) hx hb dL_law_30 (by decide) (fun c30 => ?_) (fun c30 => ?_)
    · refine lv_iconst (v := 1) hx hb dL_law_2759 (by decide) ?_
      refine va_forget (fun q hq => hS.2.2 q hq) ?_
      refine W.widen (k := k0 + 60 * 513) (n := n0 + 6000 * 513) (by omega) (by omega) ?_
      exact hE _ _ _ hd0
    · exfalso
      have e1 : (nI L).toInt = (L : Int) := Int32.toInt_ofNat_of_lt (by omega)
      have e2 : (nI (7 * j)).toInt = ((7 * j : Nat) : Int) := Int32.toInt_ofNat_of_lt (by omega)
      have e3 : (nI L - 7).toInt = (L : Int) - 7 := by
        rw [Int32.toInt_sub, e1, show (7 : Int32).toInt = 7 by decide]
        simp only [Int.bmod]
        omega
      rw [Int32.lt_iff_toInt_lt, e3, e2] at c30
      omega
  | succ f ih =>
    intro j hj σ μ o H locs d0 ls hI hW hS hd0 hl
    have hX : va_X b L xs (s.setDrawn d0) s.heap := hX0
    refine lv_iload hx hb dL_law_23 (lv_at hl 4 rfl) ?_
    refine lv_aload_n hx hb dL_law_25 rfl (lv_at hl 0 rfl) ?_
    refine lo_xlen hx hb hX hbl hS dL_law_26 ?_
    refine lv_bipush (v := 7) hx hb dL_law_27 (by decide) ?_
    refine lv_isub hx hb dL_law_29 ?_
    refine lv_icmp_gt (tgt := 2759) hx hb dL_law_30 (by decide) (fun c30 => ?_) (fun c30 => ?_)
    · refine lv_iconst (v := 1) hx hb dL_law_2759 (by decide) ?_
      refine va_forget (fun q hq => hS.2.2 q hq) ?_
      refine W.widen (k := k0 + 60 * 513) (n := n0 + 6000 * 513) (by omega) (by omega) ?_
      exact hE _ _ _ hd0
    have hj7 : 7 * j + 7 ≤ L := by
      have e1 : (nI L).toInt = (L : Int) := Int32.toInt_ofNat_of_lt (by omega)
      have e2 : (nI (7 * j)).toInt = ((7 * j : Nat) : Int) := Int32.toInt_ofNat_of_lt (by omega)
      have e3 : (nI L - 7).toInt = (L : Int) - 7 := by
        rw [Int32.toInt_sub, e1, show (7 : Int32).toInt = 7 by decide]
        simp only [Int.bmod]
        omega
      rw [Int32.lt_iff_toInt_lt, e3, e2] at c30
      omega
    have hcd := lo_cdI hL hj7
    have kN : lo_Next cs I p l e room_1 s m below meth c D cI cZ cL ad am oa b Q (nI (7 * j)) (k0 + 60 * j + 60) (n0 + 6000 * j + 6000) := by
      intro σ μ o H locs d1 ls hI hW hS hd1 hl
      refine lv_iinc (v := nI (7 * (j + 1))) (lv' := [(4, .int (nI (7 * (j + 1)))), (0, .ref b), (1, .ref (ad 0)), (2, .ref (am 38)), (3, .ref oa)]) hx hb dL_law_2753 hl (k := 4) rfl (nI_add (7 * j) 7) (by decide) rfl (fun ls hl => ?_)
      refine lv_goto (tgt := 23) hx hb dL_law_2756 (by decide) ?_
      refine W.widen (k := k0 + 60 * (j + 1)) (n := n0 + 6000 * (j + 1)) (by omega) (by omega) ?_
      exact ih (j + 1) (by omega) hI hW hS hd1 (lv_sub hl [1, 2, 3, 4, 0] rfl)
    refine lv_aload_n hx hb dL_law_33 rfl (lv_at hl 0 rfl) ?_
    refine lv_iload hx hb dL_law_34 (lv_at hl 4 rfl) ?_
    refine lo_xald hx hb hX hbl hS (vp_in_nI (by omega) (by omega)) dL_law_36 ?_
    refine lv_bipush (v := 63) hx hb dL_law_37 (by decide) ?_
    refine lv_iand hx hb dL_law_39 ?_
    refine lv_topi (fun y hy => ?_)
    clear hy
    have hk1 : k0 + 60 * j + 60 ≤ room_1.cells := by omega
    have hn1 : n0 + 6000 * j + 6000 ≤ room_1.slots := by omega
    by_cases hlo : y.toInt < 0 ∨ 40 < y.toInt
    · refine lv_tableOut (tgt := 2753) hx hb dL_law_40 hlo (by decide) ?_
      refine W.widen (k := k0 + 60 * j + 60) (n := n0 + 6000 * j + 6000) (by omega) (by omega) ?_
      exact kN _ _ _ _ _ _ _ hI hW hS hd0 hl
    · obtain ⟨h0, h1, h2, h3, h4, h5, h6, h7, h8, h9, h10, h11, h12, h13, h14, h15, h16, h17, h18, h19, h20, h21, h22, h23, h24, h25, h26, h27, h28, h29, h30, h31, h32, h33, h34, h35, h36, h37, h38, h39, h40⟩ := hH
      have hc : y.toInt = 0 ∨ y.toInt = 1 ∨ y.toInt = 2 ∨ y.toInt = 3 ∨ y.toInt = 4 ∨ y.toInt = 5 ∨ y.toInt = 6 ∨ y.toInt = 7 ∨ y.toInt = 8 ∨ y.toInt = 9 ∨ y.toInt = 10 ∨ y.toInt = 11 ∨ y.toInt = 12 ∨ y.toInt = 13 ∨ y.toInt = 14 ∨ y.toInt = 15 ∨ y.toInt = 16 ∨ y.toInt = 17 ∨ y.toInt = 18 ∨ y.toInt = 19 ∨ y.toInt = 20 ∨ y.toInt = 21 ∨ y.toInt = 22 ∨ y.toInt = 23 ∨ y.toInt = 24 ∨ y.toInt = 25 ∨ y.toInt = 26 ∨ y.toInt = 27 ∨ y.toInt = 28 ∨ y.toInt = 29 ∨ y.toInt = 30 ∨ y.toInt = 31 ∨ y.toInt = 32 ∨ y.toInt = 33 ∨ y.toInt = 34 ∨ y.toInt = 35 ∨ y.toInt = 36 ∨ y.toInt = 37 ∨ y.toInt = 38 ∨ y.toInt = 39 ∨ y.toInt = 40 := by omega
      rcases hc with hc | hc | hc | hc | hc | hc | hc | hc | hc | hc | hc | hc | hc | hc | hc | hc | hc | hc | hc | hc | hc | hc | hc | hc | hc | hc | hc | hc | hc | hc | hc | hc | hc | hc | hc | hc | hc | hc | hc | hc | hc
      · refine lv_tableIn (tgt := 220) (off := 180) hx hb dL_law_40 (by omega) (by omega) (by rw [hc]; rfl) (by decide) ?_
        exact lo_case_0 C1 hnb hcd hk1 hn1 kN h0 hI hW hS hd0 hl
      · refine lv_tableIn (tgt := 288) (off := 248) hx hb dL_law_40 (by omega) (by omega) (by rw [hc]; rfl) (by decide) ?_
        exact lo_case_1 C1 hnb hcd hk1 hn1 kN h1 hI hW hS hd0 hl
      · refine lv_tableIn (tgt := 332) (off := 292) hx hb dL_law_40 (by omega) (by omega) (by rw [hc]; rfl) (by decide) ?_
        exact lo_case_2 C1 hnb hcd hk1 hn1 kN h2 hI hW hS hd0 hl
      · refine lv_tableIn (tgt := 388) (off := 348) hx hb dL_law_40 (by omega) (by omega) (by rw [hc]; rfl) (by decide) ?_
        exact lo_case_3 C1 hnb hcd hk1 hn1 kN h3 hI hW hS hd0 hl
      · refine lv_tableIn (tgt := 491) (off := 451) hx hb dL_law_40 (by omega) (by omega) (by rw [hc]; rfl) (by decide) ?_
        exact lo_case_4 C1 hnb hcd hk1 hn1 kN h4 hI hW hS hd0 hl
      · refine lv_tableIn (tgt := 594) (off := 554) hx hb dL_law_40 (by omega) (by omega) (by rw [hc]; rfl) (by decide) ?_
        exact lo_case_5 C1 hnb hcd hk1 hn1 kN h5 hI hW hS hd0 hl
      · refine lv_tableIn (tgt := 662) (off := 622) hx hb dL_law_40 (by omega) (by omega) (by rw [hc]; rfl) (by decide) ?_
        exact lo_case_6 C1 hnb hcd hk1 hn1 kN h6 hI hW hS hd0 hl
      · refine lv_tableIn (tgt := 742) (off := 702) hx hb dL_law_40 (by omega) (by omega) (by rw [hc]; rfl) (by decide) ?_
        exact lo_case_7 C1 hnb hcd hk1 hn1 kN h7 hI hW hS hd0 hl
      · refine lv_tableIn (tgt := 810) (off := 770) hx hb dL_law_40 (by omega) (by omega) (by rw [hc]; rfl) (by decide) ?_
        exact lo_case_8 C1 hnb hcd hk1 hn1 kN h8 hI hW hS hd0 hl
      · refine lv_tableIn (tgt := 897) (off := 857) hx hb dL_law_40 (by omega) (by omega) (by rw [hc]; rfl) (by decide) ?_
        exact lo_case_9 C1 hnb hcd hk1 hn1 kN h9 hI hW hS hd0 hl
      · refine lv_tableIn (tgt := 910) (off := 870) hx hb dL_law_40 (by omega) (by omega) (by rw [hc]; rfl) (by decide) ?_
        exact lo_case_10 C1 hnb hcd hk1 hn1 kN h10 hI hW hS hd0 hl
      · refine lv_tableIn (tgt := 923) (off := 883) hx hb dL_law_40 (by omega) (by omega) (by rw [hc]; rfl) (by decide) ?_
        exact lo_case_11 C1 hnb hcd hk1 hn1 kN h11 hI hW hS hd0 hl
      · refine lv_tableIn (tgt := 936) (off := 896) hx hb dL_law_40 (by omega) (by omega) (by rw [hc]; rfl) (by decide) ?_
        exact lo_case_12 C1 hnb hcd hk1 hn1 kN h12 hI hW hS hd0 hl
      · refine lv_tableIn (tgt := 1004) (off := 964) hx hb dL_law_40 (by omega) (by omega) (by rw [hc]; rfl) (by decide) ?_
        exact lo_case_13 C1 hnb hcd hk1 hn1 kN h13 hI hW hS hd0 hl
      · refine lv_tableIn (tgt := 1072) (off := 1032) hx hb dL_law_40 (by omega) (by omega) (by rw [hc]; rfl) (by decide) ?_
        exact lo_case_14 C1 hnb hcd hk1 hn1 kN h14 hI hW hS hd0 hl
      · refine lv_tableIn (tgt := 1180) (off := 1140) hx hb dL_law_40 (by omega) (by omega) (by rw [hc]; rfl) (by decide) ?_
        exact lo_case_15 C1 hnb hcd hk1 hn1 kN h15 hI hW hS hd0 hl
      · refine lv_tableIn (tgt := 1276) (off := 1236) hx hb dL_law_40 (by omega) (by omega) (by rw [hc]; rfl) (by decide) ?_
        exact lo_case_16 C1 hnb hcd hk1 hn1 kN h16 hI hW hS hd0 hl
      · refine lv_tableIn (tgt := 1368) (off := 1328) hx hb dL_law_40 (by omega) (by omega) (by rw [hc]; rfl) (by decide) ?_
        exact lo_case_17 C1 hnb hcd hk1 hn1 kN h17 hI hW hS hd0 hl
      · refine lv_tableIn (tgt := 1424) (off := 1384) hx hb dL_law_40 (by omega) (by omega) (by rw [hc]; rfl) (by decide) ?_
        exact lo_case_18 C1 hnb hcd hk1 hn1 kN h18 hI hW hS hd0 hl
      · refine lv_tableIn (tgt := 1437) (off := 1397) hx hb dL_law_40 (by omega) (by omega) (by rw [hc]; rfl) (by decide) ?_
        exact lo_case_19 C1 hnb hcd hk1 hn1 kN h19 hI hW hS hd0 hl
      · refine lv_tableIn (tgt := 1493) (off := 1453) hx hb dL_law_40 (by omega) (by omega) (by rw [hc]; rfl) (by decide) ?_
        exact lo_case_20 C1 hnb hcd hk1 hn1 kN h20 hI hW hS hd0 hl
      · refine lv_tableIn (tgt := 1592) (off := 1552) hx hb dL_law_40 (by omega) (by omega) (by rw [hc]; rfl) (by decide) ?_
        exact lo_case_21 C1 hnb hcd hk1 hn1 kN h21 hI hW hS hd0 hl
      · refine lv_tableIn (tgt := 1648) (off := 1608) hx hb dL_law_40 (by omega) (by omega) (by rw [hc]; rfl) (by decide) ?_
        exact lo_case_22 C1 hnb hcd hk1 hn1 kN h22 hI hW hS hd0 hl
      · refine lv_tableIn (tgt := 1661) (off := 1621) hx hb dL_law_40 (by omega) (by omega) (by rw [hc]; rfl) (by decide) ?_
        exact lo_case_23 C1 hnb hcd hk1 hn1 kN h23 hI hW hS hd0 hl
      · refine lv_tableIn (tgt := 1779) (off := 1739) hx hb dL_law_40 (by omega) (by omega) (by rw [hc]; rfl) (by decide) ?_
        exact lo_case_24 C1 hnb hcd hk1 hn1 kN h24 hI hW hS hd0 hl
      · refine lv_tableIn (tgt := 1842) (off := 1802) hx hb dL_law_40 (by omega) (by omega) (by rw [hc]; rfl) (by decide) ?_
        exact lo_case_25 C1 hnb hcd hk1 hn1 kN h25 hI hW hS hd0 hl
      · refine lv_tableIn (tgt := 1855) (off := 1815) hx hb dL_law_40 (by omega) (by omega) (by rw [hc]; rfl) (by decide) ?_
        exact lo_case_26 C1 hnb hcd hk1 hn1 kN h26 hI hW hS hd0 hl
      · refine lv_tableIn (tgt := 1918) (off := 1878) hx hb dL_law_40 (by omega) (by omega) (by rw [hc]; rfl) (by decide) ?_
        exact lo_case_27 C1 hnb hcd hk1 hn1 kN h27 hI hW hS hd0 hl
      · refine lv_tableIn (tgt := 1998) (off := 1958) hx hb dL_law_40 (by omega) (by omega) (by rw [hc]; rfl) (by decide) ?_
        exact lo_case_28 C1 hnb hcd hk1 hn1 kN h28 hI hW hS hd0 hl
      · refine lv_tableIn (tgt := 2078) (off := 2038) hx hb dL_law_40 (by omega) (by omega) (by rw [hc]; rfl) (by decide) ?_
        exact lo_case_29 C1 hnb hcd hk1 hn1 kN h29 hI hW hS hd0 hl
      · refine lv_tableIn (tgt := 2158) (off := 2118) hx hb dL_law_40 (by omega) (by omega) (by rw [hc]; rfl) (by decide) ?_
        exact lo_case_30 C1 hnb hcd hk1 hn1 kN h30 hI hW hS hd0 hl
      · refine lv_tableIn (tgt := 2214) (off := 2174) hx hb dL_law_40 (by omega) (by omega) (by rw [hc]; rfl) (by decide) ?_
        exact lo_case_31 C1 hnb hcd hk1 hn1 kN h31 hI hW hS hd0 hl
      · refine lv_tableIn (tgt := 2282) (off := 2242) hx hb dL_law_40 (by omega) (by omega) (by rw [hc]; rfl) (by decide) ?_
        exact lo_case_32 C1 hnb hcd hk1 hn1 kN h32 hI hW hS hd0 hl
      · refine lv_tableIn (tgt := 2350) (off := 2310) hx hb dL_law_40 (by omega) (by omega) (by rw [hc]; rfl) (by decide) ?_
        exact lo_case_33 C1 hnb hcd hk1 hn1 kN h33 hI hW hS hd0 hl
      · refine lv_tableIn (tgt := 2418) (off := 2378) hx hb dL_law_40 (by omega) (by omega) (by rw [hc]; rfl) (by decide) ?_
        exact lo_case_34 C1 hnb hcd hk1 hn1 kN h34 hI hW hS hd0 hl
      · refine lv_tableIn (tgt := 2498) (off := 2458) hx hb dL_law_40 (by omega) (by omega) (by rw [hc]; rfl) (by decide) ?_
        exact lo_case_35 C1 hnb hcd hk1 hn1 kN h35 hI hW hS hd0 hl
      · refine lv_tableIn (tgt := 2511) (off := 2471) hx hb dL_law_40 (by omega) (by omega) (by rw [hc]; rfl) (by decide) ?_
        exact lo_case_36 C1 hnb hcd hk1 hn1 kN h36 hI hW hS hd0 hl
      · refine lv_tableIn (tgt := 2574) (off := 2534) hx hb dL_law_40 (by omega) (by omega) (by rw [hc]; rfl) (by decide) ?_
        exact lo_case_37 C1 hnb hcd hk1 hn1 kN h37 hI hW hS hd0 hl
      · refine lv_tableIn (tgt := 2630) (off := 2590) hx hb dL_law_40 (by omega) (by omega) (by rw [hc]; rfl) (by decide) ?_
        exact lo_case_38 C1 hnb hcd hk1 hn1 kN h38 hI hW hS hd0 hl
      · refine lv_tableIn (tgt := 2698) (off := 2658) hx hb dL_law_40 (by omega) (by omega) (by rw [hc]; rfl) (by decide) ?_
        exact lo_case_39 C1 hnb hcd hk1 hn1 kN h39 hI hW hS hd0 hl
      · refine lv_tableIn (tgt := 2739) (off := 2699) hx hb dL_law_40 (by omega) (by omega) (by rw [hc]; rfl) (by decide) ?_
        exact lo_case_40 C1 hnb hcd hk1 hn1 kN h40 hI hW hS hd0 hl
