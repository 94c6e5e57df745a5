/-! ===== no share of openness is NaN ===== -/
theorem shr_30 : shrs 30 31 = true := by decide +kernel
theorem shr_40 : shrs 40 41 = true := by decide +kernel
theorem shr_45 : shrs 45 46 = true := by decide +kernel
theorem shr_50 : shrs 50 51 = true := by decide +kernel
theorem shr_60 : shrs 60 61 = true := by decide +kernel
theorem shr_75 : shrs 75 76 = true := by decide +kernel
theorem shr_80 : shrs 80 81 = true := by decide +kernel
theorem shr_90 : shrs 90 91 = true := by decide +kernel
theorem shr_100 : shrs 100 101 = true := by decide +kernel
theorem shr_120 : shrs 120 121 = true := by decide +kernel
theorem shr_all {nU nT c : Nat} (hU : 2 ≤ nU ∧ nU ≤ 4) (hT : 3 ≤ nT ∧ nT ≤ 6) (hc : c ≤ nU * 5 * nT) : shr c (nU * 5 * nT) = true := by
  have h1 : nU = 2 ∨ nU = 3 ∨ nU = 4 := by omega
  have h2 : nT = 3 ∨ nT = 4 ∨ nT = 5 ∨ nT = 6 := by omega
  rcases h1 with rfl | rfl | rfl <;> rcases h2 with rfl | rfl | rfl | rfl
  · exact shrs_t shr_30 c (by omega)
  · exact shrs_t shr_40 c (by omega)
  · exact shrs_t shr_50 c (by omega)
  · exact shrs_t shr_60 c (by omega)
  · exact shrs_t shr_45 c (by omega)
  · exact shrs_t shr_60 c (by omega)
  · exact shrs_t shr_75 c (by omega)
  · exact shrs_t shr_90 c (by omega)
  · exact shrs_t shr_60 c (by omega)
  · exact shrs_t shr_80 c (by omega)
  · exact shrs_t shr_100 c (by omega)
  · exact shrs_t shr_120 c (by omega)
theorem shr_eq {c n : Nat} (h : shr c n = true) {r v : UInt64} (hr : alike64 r (FP.ddiv (FP.i2d (nI c)) (FP.i2d (nI n))) = true) (hv : alike64 v (FP.ddiv (FP.i2d (nI c)) (FP.i2d (nI n))) = true) : Op.cmpValue (FP.dcmp r v) .l = 0 := by
  unfold shr at h
  rw [decide_eq_true_eq] at h
  rcases alike_or hr with e | ⟨_, e⟩
  · rcases alike_or hv with e2 | ⟨_, e2⟩
    · rw [e, e2]; exact h
    · exact absurd h (nan_cmp e2)
  · exact absurd h (nan_cmp e)
