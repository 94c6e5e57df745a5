/-! laid by wip/p44/genz.py: the law from 759 on -/
def wL_L_law_858 (k889 : nk_C → lk_R → Int32 → Int32 → Int32 → (Nat → Int32) → Nat → Prop) : Nat → nk_C → lk_R → Int32 → Int32 → Int32 → Int32 → (Nat → Int32) → Nat → Prop
  | 0 => fun _ _ _ _ _ _ _ _ => False
  | n + 1 => fun σ ρ x1 x4 x15 x18 fc831 nc831 => ((((σ.2.2 17) ≤ x18) → (k889 σ ρ x1 x4 x15 fc831 nc831)) ∧ ((¬ (σ.2.2 17) ≤ x18) → (vp_in (x18 + 1) 20 ∧ ∃ fe881 : Nat → Int32, ρ.1 (x18 + 1).toNatClampNeg = some fe881 ∧ vp_in x18 20 ∧ ∀ ρ882 : lk_R, ρ882 = (va_up ρ.1 x18.toNatClampNeg (some fe881), ρ.2) → wL_L_law_858 k889 n σ ρ882 x1 x4 x15 (x18 + 1) fc831 nc831)))
def wL_L_law_913 (k942 : nk_C → lk_R → Int32 → Int32 → Prop) : Nat → nk_C → lk_R → Int32 → Int32 → Int32 → (Nat → Int32) → Nat → (Nat → Int32) → Nat → Prop
  | 0 => fun _ _ _ _ _ _ _ _ _ => False
  | n + 1 => fun σ ρ x1 x4 x19 fc831 nc831 fc905 nc905 => ((((nI nc831) ≤ x19) → (k942 σ ρ x1 x4)) ∧ ((¬ (nI nc831) ≤ x19) → (vp_in x19 nc831 ∧ vp_in x19 nc905 ∧ (((fc831 x19.toNatClampNeg) = (fc905 x19.toNatClampNeg)) → (wL_L_law_913 k942 n σ ρ x1 x4 (x19 + 1) fc831 nc831 fc905 nc905)) ∧ ((¬ (fc831 x19.toNatClampNeg) = (fc905 x19.toNatClampNeg)) → (False)))))
def wJ_L_law_801 (k942 : nk_C → lk_R → Int32 → Int32 → Prop) (σ : nk_C) (ρ : lk_R) (x1 : Int32) (x4 : Int32) : Prop := (((2 ≤ (σ.2.2 17)) → (w_X9_draw σ (σ.2.2 17) (fun r817 σ817 => w_X8_isIdle σ817.1 r817 (fun r825 s825 => w_L_table (s825, σ817.2) (fun nc831 fc831 σ831 => ((¬ r825 = 0) → (∃ n858, wL_L_law_858 (fun σ ρ x1 x4 x15 fc831 nc831 => (w_X8_dropRule σ.1 x15 (fun r892 s892 => ((r892 = ((s892, σ.2).2.2 17)) → (w_L_table (s892, σ.2) (fun nc905 fc905 σ905 => ∃ n913, wL_L_law_913 k942 n913 σ905 ρ x1 x4 0 fc831 nc831 fc905 nc905))) ∧ ((¬ r892 = ((s892, σ.2).2.2 17)) → (False))))) n858 (nk_s σ831 17 ((σ831.2.2 17) - 1)) ρ x1 x4 r817 r817 fc831 nc831)) ∧ ((r825 = 0) → (k942 σ831 ρ x1 x4))))))) ∧ ((¬ 2 ≤ (σ.2.2 17)) → (k942 σ ρ x1 x4)))
def wJ_L_law_759 (k942 : nk_C → lk_R → Int32 → Int32 → Prop) (σ : nk_C) (ρ : lk_R) (x1 : Int32) (x4 : Int32) (x5 : Int32) (x6 : Int32) (x7 : Int32) : Prop := (w_X8_rolesNeeded σ.1 x5 x6 x7 (fun r766 s766 => ((((s766, σ.2).2.2 9) < r766) → (False)) ∧ ((¬ ((s766, σ.2).2.2 9) < r766) → (((¬ r766 = 1) → (wJ_L_law_801 k942 (s766, σ.2) ρ x1 x4)) ∧ ((r766 = 1) → (w_L_isByOne (s766, σ.2) x5 x6 x7 (fun r793 σ793 => ((¬ r793 = 0) → (wJ_L_law_801 k942 σ793 ρ x1 x4)) ∧ ((r793 = 0) → (False)))))))))
set_option maxHeartbeats 4000000 in
set_option maxRecDepth 100000 in
theorem tL_L_law_858 {p : Program} {l : Launch} {e : Env} {s : State} {m : MethodId} {args : Array Value} {below : List Frame} {meth : Method} {c : Code} {D : va_G} {cI cZ cG cL : ClassId} {ad am : Nat → Nat} {q1 q2 q3 b0 L : Nat} {xs : Nat → Int32} (C0 : gk_F p s m args meth c cL_law 20 (some .boolean) RL) (hK : gk_K D cI cZ cG cL s) (hZ : nk_Z q1 q2 q3 b0 L xs (lo_A s.heap.size) s s.heap) (hfl : l.stackTraces = false) (hAA : lk_D s.heap.size ad am) {rc rs kc ks : Nat} (hrc : rc + 26 ≤ kc) (hrs : rs + 384 ≤ ks) (hkc : kc ≤ 600074) (hks : ks ≤ 7301550) {Q : State → Prop} {k889 : nk_C → lk_R → Int32 → Int32 → Int32 → (Nat → Int32) → Nat → Prop} (hk889 : ∀ (σ : nk_C) (ρ : lk_R) (x1 : Int32) (x4 : Int32) (x15 : Int32) (fc831 : Nat → Int32) (nc831 : Nat), k889 σ ρ x1 x4 x15 fc831 nc831 → ∀ (H : Heap) (locs : List Loc), nk_W D cI cZ cL ad am b0 σ H → rk_W D cI cG ad am ρ H → va_S (lo_A s.heap.size) s.heap H locs → ∀ (qc831 : Nat), s.heap.size ≤ qc831 → am 18 ≠ qc831 → nk_D D cI ad am qc831 nc831 fc831 H → ∀ (ls : Array Slot), lv_has ls 20 [(0, .ref b0), (1, .int x1), (2, .ref (am 0)), (3, .ref (ad 0)), (4, .int x4), (15, .int x15), (17, .ref qc831)] → W p l e room_1 s m args below meth c H locs (rc + 25) (rs + 264) Q (F0 m 889 ls [])) : ∀ (n : Nat) (σ : nk_C) (ρ : lk_R) (x1 : Int32) (x4 : Int32) (x15 : Int32) (x18 : Int32) (fc831 : Nat → Int32) (nc831 : Nat), wL_L_law_858 k889 n σ ρ x1 x4 x15 x18 fc831 nc831 → ∀ (H : Heap) (locs : List Loc), nk_W D cI cZ cL ad am b0 σ H → rk_W D cI cG ad am ρ H → va_S (lo_A s.heap.size) s.heap H locs → ∀ (qc831 : Nat), s.heap.size ≤ qc831 → am 18 ≠ qc831 → nk_D D cI ad am qc831 nc831 fc831 H → ∀ (ls : Array Slot), lv_has ls 20 [(0, .ref b0), (1, .int x1), (2, .ref (am 0)), (3, .ref (ad 0)), (4, .int x4), (15, .int x15), (17, .ref qc831), (18, .int x18)] → W p l e room_1 s m args below meth c H locs (rc + 25) (rs + 264) Q (F0 m 858 ls []) := by
  obtain ⟨hx, hb, hml, hown, hts, hr, hlocks⟩ := id C0
  intro n
  induction n with
  | zero => exact fun _ _ _ _ _ _ _ _ hw => False.elim hw
  | succ n ih =>
    intro σ ρ x1 x4 x15 x18 fc831 nc831 hw H locs hW hR hS qc831 hgc831 hec831 hdc831 ls hl
    refine lv_iload hx hb dL_law_858 (lv_at hl 7 rfl) ?_
    refine lv_aload_n hx hb dL_law_860 rfl (lv_at hl 2 rfl) ?_
    refine gk_get hx hb hts iwX9 hown hK.1 (nk_obj hW) rfl 17 (by decide) (hts _ fl_L_119) (fun _ h9 => h9) rfl dL_law_861 ?_
    refine lv_icmp_ge (tgt := 889) hx hb dL_law_864 (by decide) (fun c864 => ?_) (fun c864 => ?_)
    · have hw := hw.1 c864
      exact hk889 σ ρ x1 x4 x15 fc831 nc831 hw _ _ hW hR hS _ hgc831 hec831 hdc831 _ (lv_sub hl [0, 1, 2, 3, 4, 5, 6] rfl)
    · have hw := hw.2 c864
      refine lv_aload_n hx hb dL_law_867 rfl (lv_at hl 2 rfl) ?_
      refine gk_get hx hb hts iwX9 hown hK.1 (nk_obj hW) rfl 18 (by decide) (hts _ fl_L_95) (fun _ h9 => h9) rfl dL_law_868 ?_
      refine lv_iload hx hb dL_law_871 (lv_at hl 7 rfl) ?_
      refine lv_aload_n hx hb dL_law_873 rfl (lv_at hl 2 rfl) ?_
      refine gk_get hx hb hts iwX9 hown hK.1 (nk_obj hW) rfl 18 (by decide) (hts _ fl_L_95) (fun _ h9 => h9) rfl dL_law_874 ?_
      refine lv_iload hx hb dL_law_877 (lv_at hl 7 rfl) ?_
      refine lv_iconst (v := 1) hx hb dL_law_879 (by decide) ?_
      refine lv_iadd hx hb dL_law_880 ?_
      obtain ⟨hin, fe881, hfe881, hw⟩ := hw
      refine rk_aald hx hb hK hR.1 hin hfe881 dL_law_881 (fun qe881 hde881 hxe881 hye881 => ?_)
      obtain ⟨hin, hw⟩ := hw
      refine rk_ast hx hb hK hW hR hAA hS hde881 hxe881 hye881 hin dL_law_882 (fun H locs hW hR oq hS => ?_)
      have hdc831 := hdc831.oq oq (Ne.symm hec831)
      obtain ⟨ρ882, eρ882⟩ : ∃ z, z = ((va_up ρ.1 x18.toNatClampNeg (some fe881), ρ.2) : lk_R) := ⟨_, rfl⟩
      rw [← eρ882] at hR
      have hw := hw ρ882 eρ882
      refine lv_iinc (v := (x18 + 1)) (lv' := [(18, .int (x18 + 1)), (0, .ref b0), (1, .int x1), (2, .ref (am 0)), (3, .ref (ad 0)), (4, .int x4), (15, .int x15), (17, .ref qc831)]) hx hb dL_law_883 hl (k := 7) rfl rfl (by decide) rfl (fun ls hl => ?_)
      refine lv_goto (tgt := 858) hx hb dL_law_886 (by decide) ?_
      exact ih σ ρ882 x1 x4 x15 (x18 + 1) fc831 nc831 hw _ _ hW hR hS _ hgc831 hec831 hdc831 _ (lv_sub hl [1, 2, 3, 4, 5, 6, 7, 0] rfl)
set_option maxHeartbeats 4000000 in
set_option maxRecDepth 100000 in
theorem tL_L_law_913 {p : Program} {l : Launch} {e : Env} {s : State} {m : MethodId} {args : Array Value} {below : List Frame} {meth : Method} {c : Code} {D : va_G} {cI cZ cG cL : ClassId} {ad am : Nat → Nat} {q1 q2 q3 b0 L : Nat} {xs : Nat → Int32} (C0 : gk_F p s m args meth c cL_law 20 (some .boolean) RL) (hK : gk_K D cI cZ cG cL s) (hZ : nk_Z q1 q2 q3 b0 L xs (lo_A s.heap.size) s s.heap) (hfl : l.stackTraces = false) (hAA : lk_D s.heap.size ad am) {rc rs kc ks : Nat} (hrc : rc + 26 ≤ kc) (hrs : rs + 384 ≤ ks) (hkc : kc ≤ 600074) (hks : ks ≤ 7301550) {Q : State → Prop} {k942 : nk_C → lk_R → Int32 → Int32 → Prop} (hk942 : ∀ (σ : nk_C) (ρ : lk_R) (x1 : Int32) (x4 : Int32), k942 σ ρ x1 x4 → ∀ (H : Heap) (locs : List Loc), nk_W D cI cZ cL ad am b0 σ H → rk_W D cI cG ad am ρ H → va_S (lo_A s.heap.size) s.heap H locs → ∀ (ls : Array Slot), lv_has ls 20 [(0, .ref b0), (1, .int x1), (2, .ref (am 0)), (3, .ref (ad 0)), (4, .int x4)] → W p l e room_1 s m args below meth c H locs kc ks Q (F0 m 942 ls [])) : ∀ (n : Nat) (σ : nk_C) (ρ : lk_R) (x1 : Int32) (x4 : Int32) (x19 : Int32) (fc831 : Nat → Int32) (nc831 : Nat) (fc905 : Nat → Int32) (nc905 : Nat), wL_L_law_913 k942 n σ ρ x1 x4 x19 fc831 nc831 fc905 nc905 → ∀ (H : Heap) (locs : List Loc), nk_W D cI cZ cL ad am b0 σ H → rk_W D cI cG ad am ρ H → va_S (lo_A s.heap.size) s.heap H locs → ∀ (qc831 : Nat), s.heap.size ≤ qc831 → am 18 ≠ qc831 → ∀ (qc905 : Nat), s.heap.size ≤ qc905 → am 18 ≠ qc905 → nk_D D cI ad am qc831 nc831 fc831 H → nk_D D cI ad am qc905 nc905 fc905 H → ∀ (ls : Array Slot), lv_has ls 20 [(0, .ref b0), (1, .int x1), (2, .ref (am 0)), (3, .ref (ad 0)), (4, .int x4), (17, .ref qc831), (18, .ref qc905), (19, .int x19)] → W p l e room_1 s m args below meth c H locs (rc + 26) (rs + 384) Q (F0 m 913 ls []) := by
  obtain ⟨hx, hb, hml, hown, hts, hr, hlocks⟩ := id C0
  intro n
  induction n with
  | zero => exact fun _ _ _ _ _ _ _ _ _ hw => False.elim hw
  | succ n ih =>
    intro σ ρ x1 x4 x19 fc831 nc831 fc905 nc905 hw H locs hW hR hS qc831 hgc831 hec831 qc905 hgc905 hec905 hdc831 hdc905 ls hl
    refine lv_iload hx hb dL_law_913 (lv_at hl 7 rfl) ?_
    refine lv_aload hx hb dL_law_915 (lv_at hl 5 rfl) ?_
    refine gk_alen hx hb hK.1 0 hdc831.1 rfl (v := (nI nc831)) rfl dL_law_917 ?_
    refine lv_icmp_ge (tgt := 942) hx hb dL_law_918 (by decide) (fun c918 => ?_) (fun c918 => ?_)
    · have hw := hw.1 c918
      refine W.widen (k := kc) (n := ks) (by omega) (by omega) ?_
      exact hk942 σ ρ x1 x4 hw _ _ hW hR hS  _ (lv_sub hl [0, 1, 2, 3, 4] rfl)
    · have hw := hw.2 c918
      refine lv_aload hx hb dL_law_921 (lv_at hl 5 rfl) ?_
      refine lv_iload hx hb dL_law_923 (lv_at hl 7 rfl) ?_
      obtain ⟨hin, hw⟩ := hw
      refine gk_iald hx hb hK.1 0 hdc831.1 rfl hin dL_law_925 ?_
      refine lv_aload hx hb dL_law_926 (lv_at hl 6 rfl) ?_
      refine lv_iload hx hb dL_law_928 (lv_at hl 7 rfl) ?_
      obtain ⟨hin, hw⟩ := hw
      refine gk_iald hx hb hK.1 0 hdc905.1 rfl hin dL_law_930 ?_
      refine lv_icmp_eq (tgt := 936) hx hb dL_law_931 (by decide) (fun c931 => ?_) (fun c931 => ?_)
      · have hw := hw.1 c931
        refine lv_iinc (v := (x19 + 1)) (lv' := [(19, .int (x19 + 1)), (0, .ref b0), (1, .int x1), (2, .ref (am 0)), (3, .ref (ad 0)), (4, .int x4), (17, .ref qc831), (18, .ref qc905)]) hx hb dL_law_936 hl (k := 7) rfl rfl (by decide) rfl (fun ls hl => ?_)
        refine lv_goto (tgt := 913) hx hb dL_law_939 (by decide) ?_
        exact ih σ ρ x1 x4 (x19 + 1) fc831 nc831 fc905 nc905 hw _ _ hW hR hS _ hgc831 hec831 _ hgc905 hec905 hdc831 hdc905 _ (lv_sub hl [1, 2, 3, 4, 5, 6, 7, 0] rfl)
      · have hw := hw.2 c931
        refine lv_iconst (v := 0) hx hb dL_law_934 (by decide) ?_
        exact False.elim hw
set_option maxHeartbeats 4000000 in
set_option maxRecDepth 100000 in
theorem tJ_L_law_801 {p : Program} {l : Launch} {e : Env} {s : State} {m : MethodId} {args : Array Value} {below : List Frame} {meth : Method} {c : Code} {D : va_G} {cI cZ cG cL : ClassId} {ad am : Nat → Nat} {q1 q2 q3 b0 L : Nat} {xs : Nat → Int32} (C0 : gk_F p s m args meth c cL_law 20 (some .boolean) RL) (hK : gk_K D cI cZ cG cL s) (hZ : nk_Z q1 q2 q3 b0 L xs (lo_A s.heap.size) s s.heap) (hfl : l.stackTraces = false) (hAA : lk_D s.heap.size ad am) {rc rs kc ks : Nat} (hrc : rc + 26 ≤ kc) (hrs : rs + 384 ≤ ks) (hkc : kc ≤ 600074) (hks : ks ≤ 7301550) {Q : State → Prop} {k942 : nk_C → lk_R → Int32 → Int32 → Prop} (hk942 : ∀ (σ : nk_C) (ρ : lk_R) (x1 : Int32) (x4 : Int32), k942 σ ρ x1 x4 → ∀ (H : Heap) (locs : List Loc), nk_W D cI cZ cL ad am b0 σ H → rk_W D cI cG ad am ρ H → va_S (lo_A s.heap.size) s.heap H locs → ∀ (ls : Array Slot), lv_has ls 20 [(0, .ref b0), (1, .int x1), (2, .ref (am 0)), (3, .ref (ad 0)), (4, .int x4)] → W p l e room_1 s m args below meth c H locs kc ks Q (F0 m 942 ls [])) : ∀ (σ : nk_C) (ρ : lk_R) (x1 : Int32) (x4 : Int32), wJ_L_law_801 k942 σ ρ x1 x4 → ∀ (H : Heap) (locs : List Loc), nk_W D cI cZ cL ad am b0 σ H → rk_W D cI cG ad am ρ H → va_S (lo_A s.heap.size) s.heap H locs → ∀ (ls : Array Slot), lv_has ls 20 [(0, .ref b0), (1, .int x1), (2, .ref (am 0)), (3, .ref (ad 0)), (4, .int x4)] → W p l e room_1 s m args below meth c H locs (rc + 24) (rs + 144) Q (F0 m 801 ls []) := by
  obtain ⟨hx, hb, hml, hown, hts, hr, hlocks⟩ := id C0
  intro σ ρ x1 x4 hw H locs hW hR hS  ls hl
  refine lv_aload_n hx hb dL_law_801 rfl (lv_at hl 2 rfl) ?_
  refine gk_get hx hb hts iwX9 hown hK.1 (nk_obj hW) rfl 17 (by decide) (hts _ fl_L_119) (fun _ h9 => h9) rfl dL_law_802 ?_
  refine lv_iconst (v := 2) hx hb dL_law_805 (by decide) ?_
  refine lv_icmp_ge (tgt := 812) hx hb dL_law_806 (by decide) (fun c806 => ?_) (fun c806 => ?_)
  · have hw := hw.1 c806
    refine lv_aload_n hx hb dL_law_812 rfl (lv_at hl 2 rfl) ?_
    refine lv_aload_n hx hb dL_law_813 rfl (lv_at hl 2 rfl) ?_
    refine gk_get hx hb hts iwX9 hown hK.1 (nk_obj hW) rfl 17 (by decide) (hts _ fl_L_119) (fun _ h9 => h9) rfl dL_law_814 ?_
    refine nk_callVi ⟨hx, hb, hml, hown, hts⟩ (c_X9_draw l D cI cZ cG cL ad am q1 q2 q3 b0 L xs hw) (cwV 1 hts (gk_gV ml_L_35 im_X9_draw se_X9_draw in_X9 co_X9_draw) rfl rfl rfl (by decide +kernel) ⟨Nat.le_of_ble_eq_true rfl, Nat.le_of_ble_eq_true rfl⟩) (gk_recv hK.1 (nk_obj hW) rfl) hW hK hZ trivial hS (hAA.up hS.1) rfl hl.1 (rest := []) rfl (lv_room (Nat.le_of_ble_eq_true rfl)) dL_law_817 ⟨by show _ ≤ 600074; omega, by show _ ≤ 7301550; omega⟩ (fun r817 σ817 H locs hw hW _ hk hS => ?_)
    have hR := hR.kept hk
    refine lv_istore (lv' := [(15, .int r817), (0, .ref b0), (1, .int x1), (2, .ref (am 0)), (3, .ref (ad 0)), (4, .int x4)]) hx hb dL_law_820 hl (by decide) rfl (fun ls hl => ?_)
    refine lv_aload_n hx hb dL_law_822 rfl (lv_at hl 4 rfl) ?_
    refine lv_iload hx hb dL_law_823 (lv_at hl 0 rfl) ?_
    refine nk_gVi ⟨hx, hb, hml, hown, hts⟩ (c_X8_isIdle l D cI cZ cG cL ad hw) (cwV 1 hts (gk_gV ml_L_122 im_X8_isIdle se_X8_isIdle in_X8 co_X8_isIdle) rfl rfl rfl (by decide +kernel) ⟨Nat.le_of_ble_eq_true rfl, Nat.le_of_ble_eq_true rfl⟩) (gk_recv hK.1 (gk_o0 hW.1) rfl) hW hK hS (hAA.up hS.1) rfl hl.1 (rest := []) rfl (lv_room (Nat.le_of_ble_eq_true rfl)) dL_law_825 ⟨by show _ ≤ 600074; omega, by show _ ≤ 7301550; omega⟩ (fun r825 s825 H locs hw hW _ hk hS => ?_)
    have hR := hR.gate hk
    refine lv_istore (lv' := [(16, .int r825), (15, .int r817), (0, .ref b0), (1, .int x1), (2, .ref (am 0)), (3, .ref (ad 0)), (4, .int x4)]) hx hb dL_law_828 hl (by decide) rfl (fun ls hl => ?_)
    refine lv_aload_n hx hb dL_law_830 rfl (lv_at hl 4 rfl) ?_
    have hS0 := hS
    refine nk_callTab ⟨hx, hb, hml, hown, hts⟩ (c_L_table l D cI cZ cG cL ad am q1 q2 q3 b0 L xs hw) (va_cwS 1 hts (gk_gS ml_L_125 st_L_table in_L co_L_table) rfl rfl rfl (by decide +kernel) ⟨Nat.le_of_ble_eq_true rfl, Nat.le_of_ble_eq_true rfl⟩) hW hK hZ trivial hS (hAA.up hS.1) rfl hl.1 (rest := []) rfl (lv_room (Nat.le_of_ble_eq_true rfl)) dL_law_831 ⟨by show _ ≤ 600074; omega, by show _ ≤ 7301550; omega⟩ (fun nc831 fc831 σ831 qc831 H locs hw hW hdc831 hg2 _ hk hS => ?_)
    have hec831 : am 18 ≠ qc831 := by have := hR.1.lt; omega
    have hgc831 : s.heap.size ≤ qc831 := Nat.le_trans hS0.1 hg2
    have hR := hR.kept hk
    refine lv_astore (lv' := [(17, .ref qc831), (16, .int r825), (15, .int r817), (0, .ref b0), (1, .int x1), (2, .ref (am 0)), (3, .ref (ad 0)), (4, .int x4)]) hx hb dL_law_834 hl (by decide) rfl (fun ls hl => ?_)
    refine lv_iload hx hb dL_law_836 (lv_at hl 1 rfl) ?_
    refine lv_if_ne (tgt := 844) hx hb dL_law_838 (by decide) (fun c838 => ?_) (fun c838 => ?_)
    · have hw := hw.1 c838
      refine lv_aload_n hx hb dL_law_844 rfl (lv_at hl 5 rfl) ?_
      refine lv_dup hx hb dL_law_845 rfl ?_
      refine gk_get hx hb hts iwX9 hown hK.1 (nk_obj hW) rfl 17 (by decide) (hts _ fl_L_119) (fun _ h9 => h9) rfl dL_law_846 ?_
      refine lv_iconst (v := 1) hx hb dL_law_849 (by decide) ?_
      refine lv_isub hx hb dL_law_850 ?_
      refine gk_putf (ty := .int) (v := .int ((σ831.2.2 17) - 1)) hx hb hts iwX9 tyX9 tyX9_ok nmX9 hown hK.1 hS (hAA.2.1 _ (by decide)) (nk_obj hW) rfl 17 (by decide) (hts _ fl_L_119) (fun _ h9 => h9) rfl (by decide +kernel) rfl rfl (Nat.le_of_ble_eq_true rfl) dL_law_851 (fun H locs h1 _ oq hS => ?_)
      have hW := hW.setS (i := 17) (v := ((σ831.2.2 17) - 1)) h1 oq
      have hdc831 := hdc831.oqS (k := 0) (by decide) oq
      have hR := hR.oqS (i := 0) (by decide) oq
      refine lv_iload hx hb dL_law_854 (lv_at hl 2 rfl) ?_
      refine lv_istore (lv' := [(18, .int r817), (17, .ref qc831), (16, .int r825), (15, .int r817), (0, .ref b0), (1, .int x1), (2, .ref (am 0)), (3, .ref (ad 0)), (4, .int x4)]) hx hb dL_law_856 hl (by decide) rfl (fun ls hl => ?_)
      obtain ⟨n858, hw⟩ := hw
      refine tL_L_law_858 C0 hK hZ hfl hAA hrc hrs hkc hks (hk889 := ?_) n858 (nk_s σ831 17 ((σ831.2.2 17) - 1)) ρ x1 x4 r817 r817 fc831 nc831 hw _ _ hW hR hS _ hgc831 hec831 hdc831 _ (lv_sub hl [4, 5, 6, 7, 8, 3, 1, 0] rfl)
      · intro σ ρ x1 x4 x15 fc831 nc831 hw H locs hW hR hS qc831 hgc831 hec831 hdc831 ls hl
        refine lv_aload_n hx hb dL_law_889 rfl (lv_at hl 3 rfl) ?_
        refine lv_iload hx hb dL_law_890 (lv_at hl 5 rfl) ?_
        refine nk_gVi ⟨hx, hb, hml, hown, hts⟩ (c_X8_dropRule l D cI cZ cG cL ad hw) (cwV 1 hts (gk_gV ml_L_129 im_X8_dropRule se_X8_dropRule in_X8 co_X8_dropRule) rfl rfl rfl (by decide +kernel) ⟨Nat.le_of_ble_eq_true rfl, Nat.le_of_ble_eq_true rfl⟩) (gk_recv hK.1 (gk_o0 hW.1) rfl) hW hK hS (hAA.up hS.1) rfl hl.1 (rest := []) rfl (lv_room (Nat.le_of_ble_eq_true rfl)) dL_law_892 ⟨by show _ ≤ 600074; omega, by show _ ≤ 7301550; omega⟩ (fun r892 s892 H locs hw hW _ hk hS => ?_)
        have hdc831 := hdc831.gate hk
        have hR := hR.gate hk
        refine lv_aload_n hx hb dL_law_895 rfl (lv_at hl 2 rfl) ?_
        refine gk_get hx hb hts iwX9 hown hK.1 (nk_obj hW) rfl 17 (by decide) (hts _ fl_L_119) (fun _ h9 => h9) rfl dL_law_896 ?_
        refine lv_icmp_eq (tgt := 904) hx hb dL_law_899 (by decide) (fun c899 => ?_) (fun c899 => ?_)
        · have hw := hw.1 c899
          refine lv_aload_n hx hb dL_law_904 rfl (lv_at hl 2 rfl) ?_
          have hS0 := hS
          refine nk_callTab ⟨hx, hb, hml, hown, hts⟩ (c_L_table l D cI cZ cG cL ad am q1 q2 q3 b0 L xs hw) (va_cwS 1 hts (gk_gS ml_L_125 st_L_table in_L co_L_table) rfl rfl rfl (by decide +kernel) ⟨Nat.le_of_ble_eq_true rfl, Nat.le_of_ble_eq_true rfl⟩) hW hK hZ trivial hS (hAA.up hS.1) rfl hl.1 (rest := []) rfl (lv_room (Nat.le_of_ble_eq_true rfl)) dL_law_905 ⟨by show _ ≤ 600074; omega, by show _ ≤ 7301550; omega⟩ (fun nc905 fc905 σ905 qc905 H locs hw hW hdc905 hg2 _ hk hS => ?_)
          have hec905 : am 18 ≠ qc905 := by have := hR.1.lt; omega
          have hgc905 : s.heap.size ≤ qc905 := Nat.le_trans hS0.1 hg2
          have hdc831 := hdc831.kept hk
          have hR := hR.kept hk
          refine lv_astore (lv' := [(18, .ref qc905), (0, .ref b0), (1, .int x1), (2, .ref (am 0)), (3, .ref (ad 0)), (4, .int x4), (15, .int x15), (17, .ref qc831)]) hx hb dL_law_908 hl (by decide) rfl (fun ls hl => ?_)
          refine lv_iconst (v := 0) hx hb dL_law_910 (by decide) ?_
          refine lv_istore (lv' := [(19, .int 0), (18, .ref qc905), (0, .ref b0), (1, .int x1), (2, .ref (am 0)), (3, .ref (ad 0)), (4, .int x4), (15, .int x15), (17, .ref qc831)]) hx hb dL_law_911 hl (by decide) rfl (fun ls hl => ?_)
          obtain ⟨n913, hw⟩ := hw
          refine tL_L_law_913 C0 hK hZ hfl hAA hrc hrs hkc hks (hk942 := hk942) n913 σ905 ρ x1 x4 0 fc831 nc831 fc905 nc905 hw _ _ hW hR hS _ hgc831 hec831 _ hgc905 hec905 hdc831 hdc905 _ (lv_sub hl [2, 3, 4, 5, 6, 8, 1, 0] rfl)
        · have hw := hw.2 c899
          refine lv_iconst (v := 0) hx hb dL_law_902 (by decide) ?_
          exact False.elim hw
    · have hw := hw.2 c838
      refine lv_goto (tgt := 942) hx hb dL_law_841 (by decide) ?_
      refine W.widen (k := kc) (n := ks) (by omega) (by omega) ?_
      exact hk942 σ831 ρ x1 x4 hw _ _ hW hR hS  _ (lv_sub hl [3, 4, 5, 6, 7] rfl)
  · have hw := hw.2 c806
    refine lv_goto (tgt := 942) hx hb dL_law_809 (by decide) ?_
    refine W.widen (k := kc) (n := ks) (by omega) (by omega) ?_
    exact hk942 σ ρ x1 x4 hw _ _ hW hR hS  _ hl
set_option maxHeartbeats 4000000 in
set_option maxRecDepth 100000 in
theorem tJ_L_law_759 {p : Program} {l : Launch} {e : Env} {s : State} {m : MethodId} {args : Array Value} {below : List Frame} {meth : Method} {c : Code} {D : va_G} {cI cZ cG cL : ClassId} {ad am : Nat → Nat} {q1 q2 q3 b0 L : Nat} {xs : Nat → Int32} (C0 : gk_F p s m args meth c cL_law 20 (some .boolean) RL) (hK : gk_K D cI cZ cG cL s) (hZ : nk_Z q1 q2 q3 b0 L xs (lo_A s.heap.size) s s.heap) (hfl : l.stackTraces = false) (hAA : lk_D s.heap.size ad am) {rc rs kc ks : Nat} (hrc : rc + 26 ≤ kc) (hrs : rs + 384 ≤ ks) (hkc : kc ≤ 600074) (hks : ks ≤ 7301550) {Q : State → Prop} {k942 : nk_C → lk_R → Int32 → Int32 → Prop} (hk942 : ∀ (σ : nk_C) (ρ : lk_R) (x1 : Int32) (x4 : Int32), k942 σ ρ x1 x4 → ∀ (H : Heap) (locs : List Loc), nk_W D cI cZ cL ad am b0 σ H → rk_W D cI cG ad am ρ H → va_S (lo_A s.heap.size) s.heap H locs → ∀ (ls : Array Slot), lv_has ls 20 [(0, .ref b0), (1, .int x1), (2, .ref (am 0)), (3, .ref (ad 0)), (4, .int x4)] → W p l e room_1 s m args below meth c H locs kc ks Q (F0 m 942 ls [])) : ∀ (σ : nk_C) (ρ : lk_R) (x1 : Int32) (x4 : Int32) (x5 : Int32) (x6 : Int32) (x7 : Int32), wJ_L_law_759 k942 σ ρ x1 x4 x5 x6 x7 → ∀ (H : Heap) (locs : List Loc), nk_W D cI cZ cL ad am b0 σ H → rk_W D cI cG ad am ρ H → va_S (lo_A s.heap.size) s.heap H locs → ∀ (ls : Array Slot), lv_has ls 20 [(0, .ref b0), (1, .int x1), (2, .ref (am 0)), (3, .ref (ad 0)), (4, .int x4), (5, .int x5), (6, .int x6), (7, .int x7)] → W p l e room_1 s m args below meth c H locs (rc + 0) (rs + 0) Q (F0 m 759 ls []) := by
  obtain ⟨hx, hb, hml, hown, hts, hr, hlocks⟩ := id C0
  intro σ ρ x1 x4 x5 x6 x7 hw H locs hW hR hS  ls hl
  refine lv_aload_n hx hb dL_law_759 rfl (lv_at hl 3 rfl) ?_
  refine lv_iload hx hb dL_law_760 (lv_at hl 5 rfl) ?_
  refine lv_iload hx hb dL_law_762 (lv_at hl 6 rfl) ?_
  refine lv_iload hx hb dL_law_764 (lv_at hl 7 rfl) ?_
  refine nk_gVi ⟨hx, hb, hml, hown, hts⟩ (c_X8_rolesNeeded l D cI cZ cG cL ad hw) (cwV 3 hts (gk_gV ml_L_69 im_X8_rolesNeeded se_X8_rolesNeeded in_X8 co_X8_rolesNeeded) rfl rfl rfl (by decide +kernel) ⟨Nat.le_of_ble_eq_true rfl, Nat.le_of_ble_eq_true rfl⟩) (gk_recv hK.1 (gk_o0 hW.1) rfl) hW hK hS (hAA.up hS.1) rfl hl.1 (rest := []) rfl (lv_room (Nat.le_of_ble_eq_true rfl)) dL_law_766 ⟨by show _ ≤ 600074; omega, by show _ ≤ 7301550; omega⟩ (fun r766 s766 H locs hw hW _ hk hS => ?_)
  have hR := hR.gate hk
  refine lv_istore (lv' := [(14, .int r766), (0, .ref b0), (1, .int x1), (2, .ref (am 0)), (3, .ref (ad 0)), (4, .int x4), (5, .int x5), (6, .int x6), (7, .int x7)]) hx hb dL_law_769 hl (by decide) rfl (fun ls hl => ?_)
  refine lv_iload hx hb dL_law_771 (lv_at hl 0 rfl) ?_
  refine lv_aload_n hx hb dL_law_773 rfl (lv_at hl 3 rfl) ?_
  refine gk_get hx hb hts iwX9 hown hK.1 (nk_obj hW) rfl 9 (by decide) (hts _ fl_L_72) (fun _ h9 => h9) rfl dL_law_774 ?_
  refine lv_icmp_gt (tgt := 799) hx hb dL_law_777 (by decide) (fun c777 => ?_) (fun c777 => ?_)
  · have hw := hw.1 c777
    refine lv_iconst (v := 0) hx hb dL_law_799 (by decide) ?_
    exact False.elim hw
  · have hw := hw.2 c777
    refine lv_iload hx hb dL_law_780 (lv_at hl 0 rfl) ?_
    refine lv_iconst (v := 1) hx hb dL_law_782 (by decide) ?_
    refine lv_icmp_ne (tgt := 801) hx hb dL_law_783 (by decide) (fun c783 => ?_) (fun c783 => ?_)
    · have hw := hw.1 c783
      refine W.widen (k := rc + 24) (n := rs + 144) (by omega) (by omega) ?_
      refine tJ_L_law_801 C0 hK hZ hfl hAA hrc hrs hkc hks (hk942 := hk942) (s766, σ.2) ρ x1 x4 hw _ _ hW hR hS  _ (lv_sub hl [1, 2, 3, 4, 5] rfl)
    · have hw := hw.2 c783
      refine lv_aload_n hx hb dL_law_786 rfl (lv_at hl 3 rfl) ?_
      refine lv_iload hx hb dL_law_787 (lv_at hl 6 rfl) ?_
      refine lv_iload hx hb dL_law_789 (lv_at hl 7 rfl) ?_
      refine lv_iload hx hb dL_law_791 (lv_at hl 8 rfl) ?_
      refine nk_callXS ⟨hx, hb, hml, hown, hts⟩ (c_L_isByOne l hfl D cI cZ cG cL ad am q1 q2 q3 b0 L xs hw) (vx_cwSW 4 hts (gk_gS ml_L_113 st_L_isByOne in_L co_L_isByOne) rfl rfl rfl (by decide +kernel) ⟨Nat.le_of_ble_eq_true rfl, Nat.le_of_ble_eq_true rfl⟩) hW hK hZ trivial hS (hAA.up hS.1) rfl hl.1 (rest := []) rfl (lv_room (Nat.le_of_ble_eq_true rfl)) dL_law_793 ⟨by show _ ≤ 600074; omega, by show _ ≤ 7301550; omega⟩ (fun r793 σ793 H locs hw hW _ hk hS => ?_)
      have hR := hR.kept hk
      refine lv_if_ne (tgt := 801) hx hb dL_law_796 (by decide) (fun c796 => ?_) (fun c796 => ?_)
      · have hw := hw.1 c796
        refine tJ_L_law_801 C0 hK hZ hfl hAA hrc hrs hkc hks (hk942 := hk942) σ793 ρ x1 x4 hw _ _ hW hR hS  _ (lv_sub hl [1, 2, 3, 4, 5] rfl)
      · have hw := hw.2 c796
        refine lv_iconst (v := 0) hx hb dL_law_799 (by decide) ?_
        exact False.elim hw
/-! laid by wip/p44/genz.py: the law from 948 on -/
def wJ_L_law_1037 (k983 : nk_C → lk_R → Int32 → Int32 → (Nat → Int32) → Nat → (Nat → Int32) → Nat → Prop) (σ : nk_C) (ρ : lk_R) (x1 : Int32) (x7 : Int32) (t0 : Int32) (t1 : Int32) (fc956 : Nat → Int32) (nc956 : Nat) (fc968 : Nat → Int32) (nc968 : Nat) : Prop := (((t0 = t1) → (k983 σ ρ x1 (x7 + 1) fc956 nc956 fc968 nc968)) ∧ ((¬ t0 = t1) → (False)))
def wJ_L_law_1023 (k983 : nk_C → lk_R → Int32 → Int32 → (Nat → Int32) → Nat → (Nat → Int32) → Nat → Prop) (σ : nk_C) (ρ : lk_R) (x1 : Int32) (x7 : Int32) (t0 : Int32) (fc956 : Nat → Int32) (nc956 : Nat) (fc968 : Nat → Int32) (nc968 : Nat) : Prop := (vp_in x7 nc968 ∧ (((fc968 x7.toNatClampNeg) ≤ 3) → (wJ_L_law_1037 k983 σ ρ x1 x7 t0 0 fc956 nc956 fc968 nc968)) ∧ ((¬ (fc968 x7.toNatClampNeg) ≤ 3) → (wJ_L_law_1037 k983 σ ρ x1 x7 t0 1 fc956 nc956 fc968 nc968)))
def wJ_L_law_1009 (k983 : nk_C → lk_R → Int32 → Int32 → (Nat → Int32) → Nat → (Nat → Int32) → Nat → Prop) (σ : nk_C) (ρ : lk_R) (x1 : Int32) (x7 : Int32) (fc956 : Nat → Int32) (nc956 : Nat) (fc968 : Nat → Int32) (nc968 : Nat) : Prop := (vp_in x7 nc956 ∧ (((fc956 x7.toNatClampNeg) ≤ 3) → (wJ_L_law_1023 k983 σ ρ x1 x7 0 fc956 nc956 fc968 nc968)) ∧ ((¬ (fc956 x7.toNatClampNeg) ≤ 3) → (wJ_L_law_1023 k983 σ ρ x1 x7 1 fc956 nc956 fc968 nc968)))
def wL_L_law_983 (k1048 : nk_C → lk_R → Int32 → Prop) : Nat → nk_C → lk_R → Int32 → Int32 → (Nat → Int32) → Nat → (Nat → Int32) → Nat → Prop
  | 0 => fun _ _ _ _ _ _ _ _ => False
  | n + 1 => fun σ ρ x1 x7 fc956 nc956 fc968 nc968 => ((((nI nc968) ≤ x7) → (k1048 σ ρ x1)) ∧ ((¬ (nI nc968) ≤ x7) → (vp_in x7 nc956 ∧ ((¬ (fc956 x7.toNatClampNeg) = 1) → (wJ_L_law_1009 (fun σ ρ x1 x7 fc956 nc956 fc968 nc968 => wL_L_law_983 k1048 n σ ρ x1 x7 fc956 nc956 fc968 nc968) σ ρ x1 x7 fc956 nc956 fc968 nc968)) ∧ (((fc956 x7.toNatClampNeg) = 1) → (vp_in x7 nc968 ∧ ((¬ (fc968 x7.toNatClampNeg) = 1) → (False)) ∧ (((fc968 x7.toNatClampNeg) = 1) → (wJ_L_law_1009 (fun σ ρ x1 x7 fc956 nc956 fc968 nc968 => wL_L_law_983 k1048 n σ ρ x1 x7 fc956 nc956 fc968 nc968) σ ρ x1 x7 fc956 nc956 fc968 nc968)))))))
def wJ_L_law_948 (k1048 : nk_C → lk_R → Int32 → Prop) (σ : nk_C) (ρ : lk_R) (x1 : Int32) : Prop := (w_X8_setWeighing σ.1 0 (fun r950 s950 => w_L_table (s950, σ.2) (fun nc956 fc956 σ956 => w_X8_setWeighing σ956.1 1 (fun r963 s963 => w_L_table (s963, σ956.2) (fun nc968 fc968 σ968 => w_X8_setWeighing σ968.1 r950 (fun r976 s976 => ∃ n983, wL_L_law_983 k1048 n983 (s976, σ968.2) ρ x1 0 fc956 nc956 fc968 nc968))))))
set_option maxHeartbeats 4000000 in
set_option maxRecDepth 100000 in
theorem tJ_L_law_1037 {p : Program} {l : Launch} {e : Env} {s : State} {m : MethodId} {args : Array Value} {below : List Frame} {meth : Method} {c : Code} {D : va_G} {cI cZ cG cL : ClassId} {ad am : Nat → Nat} {q1 q2 q3 b0 L : Nat} {xs : Nat → Int32} (C0 : gk_F p s m args meth c cL_law 20 (some .boolean) RL) (hK : gk_K D cI cZ cG cL s) (hZ : nk_Z q1 q2 q3 b0 L xs (lo_A s.heap.size) s s.heap) (hfl : l.stackTraces = false) (hAA : lk_D s.heap.size ad am) {rc rs kc ks : Nat} (hrc : rc + 2 ≤ kc) (hrs : rs + 240 ≤ ks) (hkc : kc ≤ 600074) (hks : ks ≤ 7301550) {Q : State → Prop} {k983 : nk_C → lk_R → Int32 → Int32 → (Nat → Int32) → Nat → (Nat → Int32) → Nat → Prop} (hk983 : ∀ (σ : nk_C) (ρ : lk_R) (x1 : Int32) (x7 : Int32) (fc956 : Nat → Int32) (nc956 : Nat) (fc968 : Nat → Int32) (nc968 : Nat), k983 σ ρ x1 x7 fc956 nc956 fc968 nc968 → ∀ (H : Heap) (locs : List Loc), nk_W D cI cZ cL ad am b0 σ H → rk_W D cI cG ad am ρ H → va_S (lo_A s.heap.size) s.heap H locs → ∀ (qc956 : Nat), s.heap.size ≤ qc956 → am 18 ≠ qc956 → ∀ (qc968 : Nat), s.heap.size ≤ qc968 → am 18 ≠ qc968 → nk_D D cI ad am qc956 nc956 fc956 H → nk_D D cI ad am qc968 nc968 fc968 H → ∀ (ls : Array Slot), lv_has ls 20 [(0, .ref b0), (1, .int x1), (5, .ref qc956), (6, .ref qc968), (7, .int x7)] → W p l e room_1 s m args below meth c H locs (rc + 2) (rs + 240) Q (F0 m 983 ls [])) : ∀ (σ : nk_C) (ρ : lk_R) (x1 : Int32) (x7 : Int32) (t0 : Int32) (t1 : Int32) (fc956 : Nat → Int32) (nc956 : Nat) (fc968 : Nat → Int32) (nc968 : Nat), wJ_L_law_1037 k983 σ ρ x1 x7 t0 t1 fc956 nc956 fc968 nc968 → ∀ (H : Heap) (locs : List Loc), nk_W D cI cZ cL ad am b0 σ H → rk_W D cI cG ad am ρ H → va_S (lo_A s.heap.size) s.heap H locs → ∀ (qc956 : Nat), s.heap.size ≤ qc956 → am 18 ≠ qc956 → ∀ (qc968 : Nat), s.heap.size ≤ qc968 → am 18 ≠ qc968 → nk_D D cI ad am qc956 nc956 fc956 H → nk_D D cI ad am qc968 nc968 fc968 H → ∀ (ls : Array Slot), lv_has ls 20 [(0, .ref b0), (1, .int x1), (5, .ref qc956), (6, .ref qc968), (7, .int x7)] → W p l e room_1 s m args below meth c H locs (rc + 2) (rs + 240) Q (F0 m 1037 ls [.int t1, .int t0]) := by
  obtain ⟨hx, hb, hml, hown, hts, hr, hlocks⟩ := id C0
  intro σ ρ x1 x7 t0 t1 fc956 nc956 fc968 nc968 hw H locs hW hR hS qc956 hgc956 hec956 qc968 hgc968 hec968 hdc956 hdc968 ls hl
  refine lv_icmp_eq (tgt := 1042) hx hb dL_law_1037 (by decide) (fun c1037 => ?_) (fun c1037 => ?_)
  · have hw := hw.1 c1037
    refine lv_iinc (v := (x7 + 1)) (lv' := [(7, .int (x7 + 1)), (0, .ref b0), (1, .int x1), (5, .ref qc956), (6, .ref qc968)]) hx hb dL_law_1042 hl (k := 4) rfl rfl (by decide) rfl (fun ls hl => ?_)
    refine lv_goto (tgt := 983) hx hb dL_law_1045 (by decide) ?_
    exact hk983 σ ρ x1 (x7 + 1) fc956 nc956 fc968 nc968 hw _ _ hW hR hS _ hgc956 hec956 _ hgc968 hec968 hdc956 hdc968 _ (lv_sub hl [1, 2, 3, 4, 0] rfl)
  · have hw := hw.2 c1037
    refine lv_iconst (v := 0) hx hb dL_law_1040 (by decide) ?_
    exact False.elim hw
set_option maxHeartbeats 4000000 in
set_option maxRecDepth 100000 in
theorem tJ_L_law_1023 {p : Program} {l : Launch} {e : Env} {s : State} {m : MethodId} {args : Array Value} {below : List Frame} {meth : Method} {c : Code} {D : va_G} {cI cZ cG cL : ClassId} {ad am : Nat → Nat} {q1 q2 q3 b0 L : Nat} {xs : Nat → Int32} (C0 : gk_F p s m args meth c cL_law 20 (some .boolean) RL) (hK : gk_K D cI cZ cG cL s) (hZ : nk_Z q1 q2 q3 b0 L xs (lo_A s.heap.size) s s.heap) (hfl : l.stackTraces = false) (hAA : lk_D s.heap.size ad am) {rc rs kc ks : Nat} (hrc : rc + 2 ≤ kc) (hrs : rs + 240 ≤ ks) (hkc : kc ≤ 600074) (hks : ks ≤ 7301550) {Q : State → Prop} {k983 : nk_C → lk_R → Int32 → Int32 → (Nat → Int32) → Nat → (Nat → Int32) → Nat → Prop} (hk983 : ∀ (σ : nk_C) (ρ : lk_R) (x1 : Int32) (x7 : Int32) (fc956 : Nat → Int32) (nc956 : Nat) (fc968 : Nat → Int32) (nc968 : Nat), k983 σ ρ x1 x7 fc956 nc956 fc968 nc968 → ∀ (H : Heap) (locs : List Loc), nk_W D cI cZ cL ad am b0 σ H → rk_W D cI cG ad am ρ H → va_S (lo_A s.heap.size) s.heap H locs → ∀ (qc956 : Nat), s.heap.size ≤ qc956 → am 18 ≠ qc956 → ∀ (qc968 : Nat), s.heap.size ≤ qc968 → am 18 ≠ qc968 → nk_D D cI ad am qc956 nc956 fc956 H → nk_D D cI ad am qc968 nc968 fc968 H → ∀ (ls : Array Slot), lv_has ls 20 [(0, .ref b0), (1, .int x1), (5, .ref qc956), (6, .ref qc968), (7, .int x7)] → W p l e room_1 s m args below meth c H locs (rc + 2) (rs + 240) Q (F0 m 983 ls [])) : ∀ (σ : nk_C) (ρ : lk_R) (x1 : Int32) (x7 : Int32) (t0 : Int32) (fc956 : Nat → Int32) (nc956 : Nat) (fc968 : Nat → Int32) (nc968 : Nat), wJ_L_law_1023 k983 σ ρ x1 x7 t0 fc956 nc956 fc968 nc968 → ∀ (H : Heap) (locs : List Loc), nk_W D cI cZ cL ad am b0 σ H → rk_W D cI cG ad am ρ H → va_S (lo_A s.heap.size) s.heap H locs → ∀ (qc956 : Nat), s.heap.size ≤ qc956 → am 18 ≠ qc956 → ∀ (qc968 : Nat), s.heap.size ≤ qc968 → am 18 ≠ qc968 → nk_D D cI ad am qc956 nc956 fc956 H → nk_D D cI ad am qc968 nc968 fc968 H → ∀ (ls : Array Slot), lv_has ls 20 [(0, .ref b0), (1, .int x1), (5, .ref qc956), (6, .ref qc968), (7, .int x7)] → W p l e room_1 s m args below meth c H locs (rc + 2) (rs + 240) Q (F0 m 1023 ls [.int t0]) := by
  obtain ⟨hx, hb, hml, hown, hts, hr, hlocks⟩ := id C0
  intro σ ρ x1 x7 t0 fc956 nc956 fc968 nc968 hw H locs hW hR hS qc956 hgc956 hec956 qc968 hgc968 hec968 hdc956 hdc968 ls hl
  refine lv_aload hx hb dL_law_1023 (lv_at hl 3 rfl) ?_
  refine lv_iload hx hb dL_law_1025 (lv_at hl 4 rfl) ?_
  obtain ⟨hin, hw⟩ := hw
  refine gk_iald hx hb hK.1 0 hdc968.1 rfl hin dL_law_1027 ?_
  refine lv_iconst (v := 3) hx hb dL_law_1028 (by decide) ?_
  refine lv_icmp_le (tgt := 1036) hx hb dL_law_1029 (by decide) (fun c1029 => ?_) (fun c1029 => ?_)
  · have hw := hw.1 c1029
    refine lv_iconst (v := 0) hx hb dL_law_1036 (by decide) ?_
    refine tJ_L_law_1037 C0 hK hZ hfl hAA hrc hrs hkc hks (hk983 := hk983) σ ρ x1 x7 t0 0 fc956 nc956 fc968 nc968 hw _ _ hW hR hS _ hgc956 hec956 _ hgc968 hec968 hdc956 hdc968 _ hl
  · have hw := hw.2 c1029
    refine lv_iconst (v := 1) hx hb dL_law_1032 (by decide) ?_
    refine lv_goto (tgt := 1037) hx hb dL_law_1033 (by decide) ?_
    refine tJ_L_law_1037 C0 hK hZ hfl hAA hrc hrs hkc hks (hk983 := hk983) σ ρ x1 x7 t0 1 fc956 nc956 fc968 nc968 hw _ _ hW hR hS _ hgc956 hec956 _ hgc968 hec968 hdc956 hdc968 _ hl
set_option maxHeartbeats 4000000 in
set_option maxRecDepth 100000 in
theorem tJ_L_law_1009 {p : Program} {l : Launch} {e : Env} {s : State} {m : MethodId} {args : Array Value} {below : List Frame} {meth : Method} {c : Code} {D : va_G} {cI cZ cG cL : ClassId} {ad am : Nat → Nat} {q1 q2 q3 b0 L : Nat} {xs : Nat → Int32} (C0 : gk_F p s m args meth c cL_law 20 (some .boolean) RL) (hK : gk_K D cI cZ cG cL s) (hZ : nk_Z q1 q2 q3 b0 L xs (lo_A s.heap.size) s s.heap) (hfl : l.stackTraces = false) (hAA : lk_D s.heap.size ad am) {rc rs kc ks : Nat} (hrc : rc + 2 ≤ kc) (hrs : rs + 240 ≤ ks) (hkc : kc ≤ 600074) (hks : ks ≤ 7301550) {Q : State → Prop} {k983 : nk_C → lk_R → Int32 → Int32 → (Nat → Int32) → Nat → (Nat → Int32) → Nat → Prop} (hk983 : ∀ (σ : nk_C) (ρ : lk_R) (x1 : Int32) (x7 : Int32) (fc956 : Nat → Int32) (nc956 : Nat) (fc968 : Nat → Int32) (nc968 : Nat), k983 σ ρ x1 x7 fc956 nc956 fc968 nc968 → ∀ (H : Heap) (locs : List Loc), nk_W D cI cZ cL ad am b0 σ H → rk_W D cI cG ad am ρ H → va_S (lo_A s.heap.size) s.heap H locs → ∀ (qc956 : Nat), s.heap.size ≤ qc956 → am 18 ≠ qc956 → ∀ (qc968 : Nat), s.heap.size ≤ qc968 → am 18 ≠ qc968 → nk_D D cI ad am qc956 nc956 fc956 H → nk_D D cI ad am qc968 nc968 fc968 H → ∀ (ls : Array Slot), lv_has ls 20 [(0, .ref b0), (1, .int x1), (5, .ref qc956), (6, .ref qc968), (7, .int x7)] → W p l e room_1 s m args below meth c H locs (rc + 2) (rs + 240) Q (F0 m 983 ls [])) : ∀ (σ : nk_C) (ρ : lk_R) (x1 : Int32) (x7 : Int32) (fc956 : Nat → Int32) (nc956 : Nat) (fc968 : Nat → Int32) (nc968 : Nat), wJ_L_law_1009 k983 σ ρ x1 x7 fc956 nc956 fc968 nc968 → ∀ (H : Heap) (locs : List Loc), nk_W D cI cZ cL ad am b0 σ H → rk_W D cI cG ad am ρ H → va_S (lo_A s.heap.size) s.heap H locs → ∀ (qc956 : Nat), s.heap.size ≤ qc956 → am 18 ≠ qc956 → ∀ (qc968 : Nat), s.heap.size ≤ qc968 → am 18 ≠ qc968 → nk_D D cI ad am qc956 nc956 fc956 H → nk_D D cI ad am qc968 nc968 fc968 H → ∀ (ls : Array Slot), lv_has ls 20 [(0, .ref b0), (1, .int x1), (5, .ref qc956), (6, .ref qc968), (7, .int x7)] → W p l e room_1 s m args below meth c H locs (rc + 2) (rs + 240) Q (F0 m 1009 ls []) := by
  obtain ⟨hx, hb, hml, hown, hts, hr, hlocks⟩ := id C0
  intro σ ρ x1 x7 fc956 nc956 fc968 nc968 hw H locs hW hR hS qc956 hgc956 hec956 qc968 hgc968 hec968 hdc956 hdc968 ls hl
  refine lv_aload hx hb dL_law_1009 (lv_at hl 2 rfl) ?_
  refine lv_iload hx hb dL_law_1011 (lv_at hl 4 rfl) ?_
  obtain ⟨hin, hw⟩ := hw
  refine gk_iald hx hb hK.1 0 hdc956.1 rfl hin dL_law_1013 ?_
  refine lv_iconst (v := 3) hx hb dL_law_1014 (by decide) ?_
  refine lv_icmp_le (tgt := 1022) hx hb dL_law_1015 (by decide) (fun c1015 => ?_) (fun c1015 => ?_)
  · have hw := hw.1 c1015
    refine lv_iconst (v := 0) hx hb dL_law_1022 (by decide) ?_
    refine tJ_L_law_1023 C0 hK hZ hfl hAA hrc hrs hkc hks (hk983 := hk983) σ ρ x1 x7 0 fc956 nc956 fc968 nc968 hw _ _ hW hR hS _ hgc956 hec956 _ hgc968 hec968 hdc956 hdc968 _ hl
  · have hw := hw.2 c1015
    refine lv_iconst (v := 1) hx hb dL_law_1018 (by decide) ?_
    refine lv_goto (tgt := 1023) hx hb dL_law_1019 (by decide) ?_
    refine tJ_L_law_1023 C0 hK hZ hfl hAA hrc hrs hkc hks (hk983 := hk983) σ ρ x1 x7 1 fc956 nc956 fc968 nc968 hw _ _ hW hR hS _ hgc956 hec956 _ hgc968 hec968 hdc956 hdc968 _ hl
set_option maxHeartbeats 4000000 in
set_option maxRecDepth 100000 in
theorem tL_L_law_983 {p : Program} {l : Launch} {e : Env} {s : State} {m : MethodId} {args : Array Value} {below : List Frame} {meth : Method} {c : Code} {D : va_G} {cI cZ cG cL : ClassId} {ad am : Nat → Nat} {q1 q2 q3 b0 L : Nat} {xs : Nat → Int32} (C0 : gk_F p s m args meth c cL_law 20 (some .boolean) RL) (hK : gk_K D cI cZ cG cL s) (hZ : nk_Z q1 q2 q3 b0 L xs (lo_A s.heap.size) s s.heap) (hfl : l.stackTraces = false) (hAA : lk_D s.heap.size ad am) {rc rs kc ks : Nat} (hrc : rc + 2 ≤ kc) (hrs : rs + 240 ≤ ks) (hkc : kc ≤ 600074) (hks : ks ≤ 7301550) {Q : State → Prop} {k1048 : nk_C → lk_R → Int32 → Prop} (hk1048 : ∀ (σ : nk_C) (ρ : lk_R) (x1 : Int32), k1048 σ ρ x1 → ∀ (H : Heap) (locs : List Loc), nk_W D cI cZ cL ad am b0 σ H → rk_W D cI cG ad am ρ H → va_S (lo_A s.heap.size) s.heap H locs → ∀ (ls : Array Slot), lv_has ls 20 [(0, .ref b0), (1, .int x1)] → W p l e room_1 s m args below meth c H locs kc ks Q (F0 m 1048 ls [])) : ∀ (n : Nat) (σ : nk_C) (ρ : lk_R) (x1 : Int32) (x7 : Int32) (fc956 : Nat → Int32) (nc956 : Nat) (fc968 : Nat → Int32) (nc968 : Nat), wL_L_law_983 k1048 n σ ρ x1 x7 fc956 nc956 fc968 nc968 → ∀ (H : Heap) (locs : List Loc), nk_W D cI cZ cL ad am b0 σ H → rk_W D cI cG ad am ρ H → va_S (lo_A s.heap.size) s.heap H locs → ∀ (qc956 : Nat), s.heap.size ≤ qc956 → am 18 ≠ qc956 → ∀ (qc968 : Nat), s.heap.size ≤ qc968 → am 18 ≠ qc968 → nk_D D cI ad am qc956 nc956 fc956 H → nk_D D cI ad am qc968 nc968 fc968 H → ∀ (ls : Array Slot), lv_has ls 20 [(0, .ref b0), (1, .int x1), (5, .ref qc956), (6, .ref qc968), (7, .int x7)] → W p l e room_1 s m args below meth c H locs (rc + 2) (rs + 240) Q (F0 m 983 ls []) := by
  obtain ⟨hx, hb, hml, hown, hts, hr, hlocks⟩ := id C0
  intro n
  induction n with
  | zero => exact fun _ _ _ _ _ _ _ _ hw => False.elim hw
  | succ n ih =>
    intro σ ρ x1 x7 fc956 nc956 fc968 nc968 hw H locs hW hR hS qc956 hgc956 hec956 qc968 hgc968 hec968 hdc956 hdc968 ls hl
    refine lv_iload hx hb dL_law_983 (lv_at hl 4 rfl) ?_
    refine lv_aload hx hb dL_law_985 (lv_at hl 3 rfl) ?_
    refine gk_alen hx hb hK.1 0 hdc968.1 rfl (v := (nI nc968)) rfl dL_law_987 ?_
    refine lv_icmp_ge (tgt := 1048) hx hb dL_law_988 (by decide) (fun c988 => ?_) (fun c988 => ?_)
    · have hw := hw.1 c988
      refine W.widen (k := kc) (n := ks) (by omega) (by omega) ?_
      exact hk1048 σ ρ x1 hw _ _ hW hR hS  _ (lv_sub hl [0, 1] rfl)
    · have hw := hw.2 c988
      refine lv_aload hx hb dL_law_991 (lv_at hl 2 rfl) ?_
      refine lv_iload hx hb dL_law_993 (lv_at hl 4 rfl) ?_
      obtain ⟨hin, hw⟩ := hw
      refine gk_iald hx hb hK.1 0 hdc956.1 rfl hin dL_law_995 ?_
      refine lv_iconst (v := 1) hx hb dL_law_996 (by decide) ?_
      refine lv_icmp_ne (tgt := 1009) hx hb dL_law_997 (by decide) (fun c997 => ?_) (fun c997 => ?_)
      · have hw := hw.1 c997
        refine tJ_L_law_1009 C0 hK hZ hfl hAA hrc hrs hkc hks (hk983 := ih) σ ρ x1 x7 fc956 nc956 fc968 nc968 hw _ _ hW hR hS _ hgc956 hec956 _ hgc968 hec968 hdc956 hdc968 _ hl
      · have hw := hw.2 c997
        refine lv_aload hx hb dL_law_1000 (lv_at hl 3 rfl) ?_
        refine lv_iload hx hb dL_law_1002 (lv_at hl 4 rfl) ?_
        obtain ⟨hin, hw⟩ := hw
        refine gk_iald hx hb hK.1 0 hdc968.1 rfl hin dL_law_1004 ?_
        refine lv_iconst (v := 1) hx hb dL_law_1005 (by decide) ?_
        refine lv_icmp_ne (tgt := 1040) hx hb dL_law_1006 (by decide) (fun c1006 => ?_) (fun c1006 => ?_)
        · have hw := hw.1 c1006
          refine lv_iconst (v := 0) hx hb dL_law_1040 (by decide) ?_
          exact False.elim hw
        · have hw := hw.2 c1006
          refine tJ_L_law_1009 C0 hK hZ hfl hAA hrc hrs hkc hks (hk983 := ih) σ ρ x1 x7 fc956 nc956 fc968 nc968 hw _ _ hW hR hS _ hgc956 hec956 _ hgc968 hec968 hdc956 hdc968 _ hl
set_option maxHeartbeats 4000000 in
set_option maxRecDepth 100000 in
theorem tJ_L_law_948 {p : Program} {l : Launch} {e : Env} {s : State} {m : MethodId} {args : Array Value} {below : List Frame} {meth : Method} {c : Code} {D : va_G} {cI cZ cG cL : ClassId} {ad am : Nat → Nat} {q1 q2 q3 b0 L : Nat} {xs : Nat → Int32} (C0 : gk_F p s m args meth c cL_law 20 (some .boolean) RL) (hK : gk_K D cI cZ cG cL s) (hZ : nk_Z q1 q2 q3 b0 L xs (lo_A s.heap.size) s s.heap) (hfl : l.stackTraces = false) (hAA : lk_D s.heap.size ad am) {rc rs kc ks : Nat} (hrc : rc + 2 ≤ kc) (hrs : rs + 240 ≤ ks) (hkc : kc ≤ 600074) (hks : ks ≤ 7301550) {Q : State → Prop} {k1048 : nk_C → lk_R → Int32 → Prop} (hk1048 : ∀ (σ : nk_C) (ρ : lk_R) (x1 : Int32), k1048 σ ρ x1 → ∀ (H : Heap) (locs : List Loc), nk_W D cI cZ cL ad am b0 σ H → rk_W D cI cG ad am ρ H → va_S (lo_A s.heap.size) s.heap H locs → ∀ (ls : Array Slot), lv_has ls 20 [(0, .ref b0), (1, .int x1)] → W p l e room_1 s m args below meth c H locs kc ks Q (F0 m 1048 ls [])) : ∀ (σ : nk_C) (ρ : lk_R) (x1 : Int32), wJ_L_law_948 k1048 σ ρ x1 → ∀ (H : Heap) (locs : List Loc), nk_W D cI cZ cL ad am b0 σ H → rk_W D cI cG ad am ρ H → va_S (lo_A s.heap.size) s.heap H locs → ∀ (ls : Array Slot), lv_has ls 20 [(0, .ref b0), (1, .int x1), (2, .ref (am 0)), (3, .ref (ad 0))] → W p l e room_1 s m args below meth c H locs (rc + 0) (rs + 0) Q (F0 m 948 ls []) := by
  obtain ⟨hx, hb, hml, hown, hts, hr, hlocks⟩ := id C0
  intro σ ρ x1 hw H locs hW hR hS  ls hl
  refine lv_aload_n hx hb dL_law_948 rfl (lv_at hl 3 rfl) ?_
  refine lv_iconst (v := 0) hx hb dL_law_949 (by decide) ?_
  refine nk_gVi ⟨hx, hb, hml, hown, hts⟩ (c_X8_setWeighing l D cI cZ cG cL ad hw) (cwV 1 hts (gk_gV ml_L_132 im_X8_setWeighing se_X8_setWeighing in_X8 co_X8_setWeighing) rfl rfl rfl (by decide +kernel) ⟨Nat.le_of_ble_eq_true rfl, Nat.le_of_ble_eq_true rfl⟩) (gk_recv hK.1 (gk_o0 hW.1) rfl) hW hK hS (hAA.up hS.1) rfl hl.1 (rest := []) rfl (lv_room (Nat.le_of_ble_eq_true rfl)) dL_law_950 ⟨by show _ ≤ 600074; omega, by show _ ≤ 7301550; omega⟩ (fun r950 s950 H locs hw hW _ hk hS => ?_)
  have hR := hR.gate hk
  refine lv_istore (lv' := [(4, .int r950), (0, .ref b0), (1, .int x1), (2, .ref (am 0)), (3, .ref (ad 0))]) hx hb dL_law_953 hl (by decide) rfl (fun ls hl => ?_)
  refine lv_aload_n hx hb dL_law_955 rfl (lv_at hl 3 rfl) ?_
  have hS0 := hS
  refine nk_callTab ⟨hx, hb, hml, hown, hts⟩ (c_L_table l D cI cZ cG cL ad am q1 q2 q3 b0 L xs hw) (va_cwS 1 hts (gk_gS ml_L_125 st_L_table in_L co_L_table) rfl rfl rfl (by decide +kernel) ⟨Nat.le_of_ble_eq_true rfl, Nat.le_of_ble_eq_true rfl⟩) hW hK hZ trivial hS (hAA.up hS.1) rfl hl.1 (rest := []) rfl (lv_room (Nat.le_of_ble_eq_true rfl)) dL_law_956 ⟨by show _ ≤ 600074; omega, by show _ ≤ 7301550; omega⟩ (fun nc956 fc956 σ956 qc956 H locs hw hW hdc956 hg2 _ hk hS => ?_)
  have hec956 : am 18 ≠ qc956 := by have := hR.1.lt; omega
  have hgc956 : s.heap.size ≤ qc956 := Nat.le_trans hS0.1 hg2
  have hR := hR.kept hk
  refine lv_astore (lv' := [(5, .ref qc956), (4, .int r950), (0, .ref b0), (1, .int x1), (2, .ref (am 0)), (3, .ref (ad 0))]) hx hb dL_law_959 hl (by decide) rfl (fun ls hl => ?_)
  refine lv_aload_n hx hb dL_law_961 rfl (lv_at hl 5 rfl) ?_
  refine lv_iconst (v := 1) hx hb dL_law_962 (by decide) ?_
  refine nk_gVi ⟨hx, hb, hml, hown, hts⟩ (c_X8_setWeighing l D cI cZ cG cL ad hw) (cwV 1 hts (gk_gV ml_L_132 im_X8_setWeighing se_X8_setWeighing in_X8 co_X8_setWeighing) rfl rfl rfl (by decide +kernel) ⟨Nat.le_of_ble_eq_true rfl, Nat.le_of_ble_eq_true rfl⟩) (gk_recv hK.1 (gk_o0 hW.1) rfl) hW hK hS (hAA.up hS.1) rfl hl.1 (rest := []) rfl (lv_room (Nat.le_of_ble_eq_true rfl)) dL_law_963 ⟨by show _ ≤ 600074; omega, by show _ ≤ 7301550; omega⟩ (fun r963 s963 H locs hw hW _ hk hS => ?_)
  have hdc956 := hdc956.gate hk
  have hR := hR.gate hk
  refine lv_pop hx hb dL_law_966 rfl ?_
  refine lv_aload_n hx hb dL_law_967 rfl (lv_at hl 4 rfl) ?_
  have hS0 := hS
  refine nk_callTab ⟨hx, hb, hml, hown, hts⟩ (c_L_table l D cI cZ cG cL ad am q1 q2 q3 b0 L xs hw) (va_cwS 1 hts (gk_gS ml_L_125 st_L_table in_L co_L_table) rfl rfl rfl (by decide +kernel) ⟨Nat.le_of_ble_eq_true rfl, Nat.le_of_ble_eq_true rfl⟩) hW hK hZ trivial hS (hAA.up hS.1) rfl hl.1 (rest := []) rfl (lv_room (Nat.le_of_ble_eq_true rfl)) dL_law_968 ⟨by show _ ≤ 600074; omega, by show _ ≤ 7301550; omega⟩ (fun nc968 fc968 σ968 qc968 H locs hw hW hdc968 hg2 _ hk hS => ?_)
  have hec968 : am 18 ≠ qc968 := by have := hR.1.lt; omega
  have hgc968 : s.heap.size ≤ qc968 := Nat.le_trans hS0.1 hg2
  have hdc956 := hdc956.kept hk
  have hR := hR.kept hk
  refine lv_astore (lv' := [(6, .ref qc968), (5, .ref qc956), (4, .int r950), (0, .ref b0), (1, .int x1), (2, .ref (am 0)), (3, .ref (ad 0))]) hx hb dL_law_971 hl (by decide) rfl (fun ls hl => ?_)
  refine lv_aload_n hx hb dL_law_973 rfl (lv_at hl 6 rfl) ?_
  refine lv_iload hx hb dL_law_974 (lv_at hl 2 rfl) ?_
  refine nk_gVi ⟨hx, hb, hml, hown, hts⟩ (c_X8_setWeighing l D cI cZ cG cL ad hw) (cwV 1 hts (gk_gV ml_L_132 im_X8_setWeighing se_X8_setWeighing in_X8 co_X8_setWeighing) rfl rfl rfl (by decide +kernel) ⟨Nat.le_of_ble_eq_true rfl, Nat.le_of_ble_eq_true rfl⟩) (gk_recv hK.1 (gk_o0 hW.1) rfl) hW hK hS (hAA.up hS.1) rfl hl.1 (rest := []) rfl (lv_room (Nat.le_of_ble_eq_true rfl)) dL_law_976 ⟨by show _ ≤ 600074; omega, by show _ ≤ 7301550; omega⟩ (fun r976 s976 H locs hw hW _ hk hS => ?_)
  have hdc956 := hdc956.gate hk
  have hdc968 := hdc968.gate hk
  have hR := hR.gate hk
  refine lv_pop hx hb dL_law_979 rfl ?_
  refine lv_iconst (v := 0) hx hb dL_law_980 (by decide) ?_
  refine lv_istore (lv' := [(7, .int 0), (6, .ref qc968), (5, .ref qc956), (4, .int r950), (0, .ref b0), (1, .int x1), (2, .ref (am 0)), (3, .ref (ad 0))]) hx hb dL_law_981 hl (by decide) rfl (fun ls hl => ?_)
  obtain ⟨n983, hw⟩ := hw
  refine tL_L_law_983 C0 hK hZ hfl hAA hrc hrs hkc hks (hk1048 := hk1048) n983 (s976, σ968.2) ρ x1 0 fc956 nc956 fc968 nc968 hw _ _ hW hR hS _ hgc956 hec956 _ hgc968 hec968 hdc956 hdc968 _ (lv_sub hl [4, 5, 2, 1, 0] rfl)
