/-! laid by wip/p44/genz.py: the law from 28 on -/
def wJ_L_law_28 (k37 : nk_C → lk_R → Int32 → Prop) (σ : nk_C) (ρ : lk_R) (x1 : Int32) : Prop := (w_X9_make σ (fun r29 σ29 => ((¬ r29 = 0) → (k37 σ29 ρ x1)) ∧ ((r29 = 0) → (False))))
set_option maxHeartbeats 4000000 in
set_option maxRecDepth 100000 in
theorem tJ_L_law_28 {p : Program} {l : Launch} {e : Env} {s : State} {m : MethodId} {args : Array Value} {below : List Frame} {meth : Method} {c : Code} {D : va_G} {cI cZ cG cL : ClassId} {ad am : Nat → Nat} {q1 q2 q3 b0 L : Nat} {xs : Nat → Int32} (C0 : gk_F p s m args meth c cL_law 20 (some .boolean) RL) (hK : gk_K D cI cZ cG cL s) (hZ : nk_Z q1 q2 q3 b0 L xs (lo_A s.heap.size) s s.heap) (hfl : l.stackTraces = false) (hAA : lk_D s.heap.size ad am) {rc rs kc ks : Nat} (hrc : rc + 0 ≤ kc) (hrs : rs + 0 ≤ ks) (hkc : kc ≤ 600074) (hks : ks ≤ 7301550) {Q : State → Prop} {k37 : nk_C → lk_R → Int32 → Prop} (hk37 : ∀ (σ : nk_C) (ρ : lk_R) (x1 : Int32), k37 σ ρ x1 → ∀ (H : Heap) (locs : List Loc), nk_W D cI cZ cL ad am b0 σ H → rk_W D cI cG ad am ρ H → va_S (lo_A s.heap.size) s.heap H locs → ∀ (ls : Array Slot), lv_has ls 20 [(0, .ref b0), (1, .int x1), (2, .ref (am 0)), (3, .ref (ad 0))] → W p l e room_1 s m args below meth c H locs kc ks Q (F0 m 37 ls [])) : ∀ (σ : nk_C) (ρ : lk_R) (x1 : Int32), wJ_L_law_28 k37 σ ρ x1 → ∀ (H : Heap) (locs : List Loc), nk_W D cI cZ cL ad am b0 σ H → rk_W D cI cG ad am ρ H → va_S (lo_A s.heap.size) s.heap H locs → ∀ (ls : Array Slot), lv_has ls 20 [(0, .ref b0), (1, .int x1), (2, .ref (am 0)), (3, .ref (ad 0))] → W p l e room_1 s m args below meth c H locs (rc + 0) (rs + 0) Q (F0 m 28 ls []) := by
  obtain ⟨hx, hb, hml, hown, hts, hr, hlocks⟩ := id C0
  intro σ ρ x1 hw H locs hW hR hS  ls hl
  refine lv_aload_n hx hb dL_law_28 rfl (lv_at hl 2 rfl) ?_
  refine nk_callVi ⟨hx, hb, hml, hown, hts⟩ (c_X9_make l D cI cZ cG cL ad am q1 q2 q3 b0 L xs hw) (cwV 0 hts (gk_gV ml_L_18 im_X9_make se_X9_make in_X9 co_X9_make) rfl rfl rfl (by decide +kernel) ⟨Nat.le_of_ble_eq_true rfl, Nat.le_of_ble_eq_true rfl⟩) (gk_recv hK.1 (nk_obj hW) rfl) hW hK hZ trivial hS (hAA.up hS.1) rfl hl.1 (rest := []) rfl (lv_room (Nat.le_of_ble_eq_true rfl)) dL_law_29 ⟨by show _ ≤ 600074; omega, by show _ ≤ 7301550; omega⟩ (fun r29 σ29 H locs hw hW _ hk hS => ?_)
  have hR := hR.kept hk
  refine lv_if_ne (tgt := 37) hx hb dL_law_32 (by decide) (fun c32 => ?_) (fun c32 => ?_)
  · have hw := hw.1 c32
    refine W.widen (k := kc) (n := ks) (by omega) (by omega) ?_
    exact hk37 σ29 ρ x1 hw _ _ hW hR hS  _ hl
  · have hw := hw.2 c32
    refine lv_iconst (v := 0) hx hb dL_law_35 (by decide) ?_
    exact False.elim hw
/-! laid by wip/p44/genz.py: the law from 46 on -/
def wJ_L_law_46 (k69 : nk_C → lk_R → Int32 → Int32 → Prop) (σ : nk_C) (ρ : lk_R) (x1 : Int32) (x4 : Int32) : Prop := (w_X9_bind σ (fun r47 σ47 => ((r47 = 0) → (False)) ∧ ((¬ r47 = 0) → (∀ g : Nat → Option Nat, w_X9_addRule σ47 g (fun r σ1 g1 q f => ∃ i : Nat, g1 = va_up g i (some q) ∧ (fun r54 σ54 N54 => (((r54 = 0) → (False)) ∧ ((¬ r54 = 0) → (∀ g : Nat → Option Nat, w_X9_addGrant σ54 g (fun r σ1 g1 q f => ∃ i : Nat, g1 = va_up g i (some q) ∧ (fun r61 σ61 N61 => (((¬ r61 = 0) → (k69 σ61 ((N54, ρ.2).1, N61) x1 x4)) ∧ ((r61 = 0) → (False)))) r σ1 (va_up (N54, ρ.2).2 i (some f))))))) r σ1 (va_up ρ.1 i (some f)))))))
set_option maxHeartbeats 4000000 in
set_option maxRecDepth 100000 in
theorem tJ_L_law_46 {p : Program} {l : Launch} {e : Env} {s : State} {m : MethodId} {args : Array Value} {below : List Frame} {meth : Method} {c : Code} {D : va_G} {cI cZ cG cL : ClassId} {ad am : Nat → Nat} {q1 q2 q3 b0 L : Nat} {xs : Nat → Int32} (C0 : gk_F p s m args meth c cL_law 20 (some .boolean) RL) (hK : gk_K D cI cZ cG cL s) (hZ : nk_Z q1 q2 q3 b0 L xs (lo_A s.heap.size) s s.heap) (hfl : l.stackTraces = false) (hAA : lk_D s.heap.size ad am) {rc rs kc ks : Nat} (hrc : rc + 5 ≤ kc) (hrs : rs + 33 ≤ ks) (hkc : kc ≤ 600074) (hks : ks ≤ 7301550) {Q : State → Prop} {k69 : nk_C → lk_R → Int32 → Int32 → Prop} (hk69 : ∀ (σ : nk_C) (ρ : lk_R) (x1 : Int32) (x4 : Int32), k69 σ ρ x1 x4 → ∀ (H : Heap) (locs : List Loc), nk_W D cI cZ cL ad am b0 σ H → rk_W D cI cG ad am ρ H → va_S (lo_A s.heap.size) s.heap H locs → ∀ (ls : Array Slot), lv_has ls 20 [(0, .ref b0), (1, .int x1), (2, .ref (am 0)), (3, .ref (ad 0)), (4, .int x4)] → W p l e room_1 s m args below meth c H locs kc ks Q (F0 m 69 ls [])) : ∀ (σ : nk_C) (ρ : lk_R) (x1 : Int32) (x4 : Int32), wJ_L_law_46 k69 σ ρ x1 x4 → ∀ (H : Heap) (locs : List Loc), nk_W D cI cZ cL ad am b0 σ H → rk_W D cI cG ad am ρ H → va_S (lo_A s.heap.size) s.heap H locs → ∀ (ls : Array Slot), lv_has ls 20 [(0, .ref b0), (1, .int x1), (2, .ref (am 0)), (3, .ref (ad 0)), (4, .int x4)] → W p l e room_1 s m args below meth c H locs (rc + 0) (rs + 0) Q (F0 m 46 ls []) := by
  obtain ⟨hx, hb, hml, hown, hts, hr, hlocks⟩ := id C0
  intro σ ρ x1 x4 hw H locs hW hR hS  ls hl
  refine lv_aload_n hx hb dL_law_46 rfl (lv_at hl 2 rfl) ?_
  refine nk_callX ⟨hx, hb, hml, hown, hts⟩ (c_X9_bind l hfl D cI cZ cG cL ad am q1 q2 q3 b0 L xs hw) (vx_cwVW 0 hts (gk_gV ml_L_22 im_X9_bind se_X9_bind in_X9 co_X9_bind) rfl rfl rfl (by decide +kernel) ⟨Nat.le_of_ble_eq_true rfl, Nat.le_of_ble_eq_true rfl⟩) (gk_recv hK.1 (nk_obj hW) rfl) hW hK hZ trivial hS (hAA.up hS.1) rfl hl.1 (rest := []) rfl (lv_room (Nat.le_of_ble_eq_true rfl)) dL_law_47 ⟨by show _ ≤ 600074; omega, by show _ ≤ 7301550; omega⟩ (fun r47 σ47 H locs hw hW _ hk hS => ?_)
  have hR := hR.kept hk
  refine lv_if_eq (tgt := 67) hx hb dL_law_50 (by decide) (fun c50 => ?_) (fun c50 => ?_)
  · have hw := hw.1 c50
    refine lv_iconst (v := 0) hx hb dL_law_67 (by decide) ?_
    exact False.elim hw
  · have hw := hw.2 c50
    refine lv_aload_n hx hb dL_law_53 rfl (lv_at hl 2 rfl) ?_
    refine nk_callO18 ⟨hx, hb, hml, hown, hts⟩ (K := (fun r54 σ54 N54 => (((r54 = 0) → (False)) ∧ ((¬ r54 = 0) → (∀ g : Nat → Option Nat, w_X9_addGrant σ54 g (fun r σ1 g1 q f => ∃ i : Nat, g1 = va_up g i (some q) ∧ (fun r61 σ61 N61 => (((¬ r61 = 0) → (k69 σ61 ((N54, ρ.2).1, N61) x1 x4)) ∧ ((r61 = 0) → (False)))) r σ1 (va_up (N54, ρ.2).2 i (some f)))))))) (fun g => ⟨_, fun r u g1 q f h => h, c_X9_addRule l D cI cZ cG cL ad am q1 q2 q3 b0 L xs (hw g)⟩) (cwV 0 hts (gk_gV ml_L_25 im_X9_addRule se_X9_addRule in_X9 co_X9_addRule) rfl rfl rfl (by decide +kernel) ⟨Nat.le_of_ble_eq_true rfl, Nat.le_of_ble_eq_true rfl⟩) (gk_recv hK.1 (nk_obj hW) rfl) hW hR hAA hK hZ hS rfl hl.1 (rest := []) rfl (lv_room (Nat.le_of_ble_eq_true rfl)) dL_law_54 ⟨by show _ ≤ 600074; omega, by show _ ≤ 7301550; omega⟩ (fun r54 σ54 N54 H locs hw hW hR _ hS => ?_)
    refine lv_if_eq (tgt := 67) hx hb dL_law_57 (by decide) (fun c57 => ?_) (fun c57 => ?_)
    · have hw := hw.1 c57
      refine lv_iconst (v := 0) hx hb dL_law_67 (by decide) ?_
      exact False.elim hw
    · have hw := hw.2 c57
      refine lv_aload_n hx hb dL_law_60 rfl (lv_at hl 2 rfl) ?_
      refine nk_callO20 ⟨hx, hb, hml, hown, hts⟩ (K := (fun r61 σ61 N61 => (((¬ r61 = 0) → (k69 σ61 ((N54, ρ.2).1, N61) x1 x4)) ∧ ((r61 = 0) → (False))))) (fun g => ⟨_, fun r u g1 q f h => h, c_X9_addGrant l D cI cZ cG cL ad am q1 q2 q3 b0 L xs (hw g)⟩) (cwV 0 hts (gk_gV ml_L_28 im_X9_addGrant se_X9_addGrant in_X9 co_X9_addGrant) rfl rfl rfl (by decide +kernel) ⟨Nat.le_of_ble_eq_true rfl, Nat.le_of_ble_eq_true rfl⟩) (gk_recv hK.1 (nk_obj hW) rfl) hW hR hAA hK hZ hS rfl hl.1 (rest := []) rfl (lv_room (Nat.le_of_ble_eq_true rfl)) dL_law_61 ⟨by show _ ≤ 600074; omega, by show _ ≤ 7301550; omega⟩ (fun r61 σ61 N61 H locs hw hW hR _ hS => ?_)
      refine lv_if_ne (tgt := 69) hx hb dL_law_64 (by decide) (fun c64 => ?_) (fun c64 => ?_)
      · have hw := hw.1 c64
        refine W.widen (k := kc) (n := ks) (by omega) (by omega) ?_
        exact hk69 σ61 ((N54, ρ.2).1, N61) x1 x4 hw _ _ hW hR hS  _ hl
      · have hw := hw.2 c64
        refine lv_iconst (v := 0) hx hb dL_law_67 (by decide) ?_
        exact False.elim hw
