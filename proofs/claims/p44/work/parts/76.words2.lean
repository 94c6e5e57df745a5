/-! ===== the law's entry: what the tables' words give ===== -/
theorem lw_bg {args : Array Value} {s : State} (hts : ∀ w ∈ lw_tbl, w.before args s = true) : ∀ w ∈ gk_BG, w.before args s = true := fun w hw => hts w (List.mem_filter.mp hw).1
theorem lw_arr {args : Array Value} {s : State} {ty : FieldType} (h : (Cond.arrayClass ty).before args s = true) : ∃ (cA : ClassId) (kA : Class) (comp : ClassId), s.vm.findClass ("[" ++ ty.toString) = some cA ∧ s.vm.classes[cA]? = some kA ∧ kA.kind = .array comp ty := Cond.arrayClass_spec h
theorem lw_tAO : Cond.arrayOver (.array .int) ∈ lw_tbl ∧ Cond.arrayOver (.array .boolean) ∈ lw_tbl := ⟨by decide +kernel, by decide +kernel⟩
theorem lw_tS1 : Cond.stringRef RX8 295 "there is no such one" ∈ lw_tbl := by decide +kernel
theorem lw_tS2 : Cond.stringRef RX8 302 "this can not be asked for" ∈ lw_tbl := by decide +kernel
theorem lw_tS3 : Cond.stringRef RX8 307 "this can not be as things stand" ∈ lw_tbl := by decide +kernel
theorem lw_tNO : ∀ w ∈ gk_NO, w ∈ lw_tbl := by decide +kernel
theorem lw_tL1 : Cond.laysStatic Bundle.tN "UNASSIGNED_STACK" Bundle.steD ∈ lw_tbl := by decide +kernel
theorem lw_tL2 : Cond.laysStatic Bundle.tN "SUPPRESSED_SENTINEL" Bundle.listD ∈ lw_tbl := by decide +kernel
theorem lw_tI : Cond.initialized Bundle.tN ∈ lw_tbl := by decide +kernel
