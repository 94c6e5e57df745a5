/-! ===== layer B: it holds at the start ===== -/
theorem jI_begin : jI gk_0 mk_0 := by
  have hU : tU (told gk_0) = 0 := rfl
  have hR : tR (told gk_0) = 0 := rfl
  have hP : tP (told gk_0) = 0 := rfl
  have hT : tT (told gk_0) = 1 := rfl
  have hL : tL (told gk_0) = 0 := rfl
  have hG : tG (told gk_0) = 0 := rfl
  have r9 : ∀ k, k < 24 → (told gk_0).1 9 k = -1 := fun k hk => by
    show gk_fill 24 (-1) (fun _ => 0) k = -1
    unfold gk_fill
    rw [if_pos hk]
  refine ⟨⟨⟨⟨0, by omega, by omega, rfl⟩, ⟨0, by omega, by omega, rfl⟩, ⟨0, by omega, by omega, rfl⟩, ⟨1, by omega, by omega, rfl⟩, ⟨0, by omega, by omega, rfl⟩, ⟨0, by omega, by omega, rfl⟩⟩, ⟨fun u hu => absurd hu (by omega), fun k hk => absurd hk (by omega)⟩, ⟨rfl, rfl, fun k h1 h2 => absurd h2 (by omega)⟩, fun k hk => Or.inl (r9 k (by omega)), fun k hk => absurd hk (by omega), fun g hg => absurd hg (by omega)⟩, ?_, ?_, rfl, fun k _ => rfl⟩
  · refine ⟨⟨rfl, rfl, rfl, rfl, rfl, rfl, rfl, rfl⟩, fun k _ => ⟨rfl, rfl, rfl⟩, fun k _ => rfl, fun k _ => rfl, fun k _ => ⟨rfl, rfl, rfl⟩, ⟨rfl, fun k h1 h2 => absurd h2 (by omega)⟩, fun k hk => absurd hk (by omega), fun g hg => absurd hg (by omega), fun k hk => absurd hk (by omega), fun i _ j _ q => ?_⟩
    have q : bt 0 j = true := q
    rw [b_0] at q
    cases q
  · refine ⟨fun u _ _ => rfl, fun u hu => absurd hu (by omega), fun k _ i _ q => ?_, fun k hk => Or.inl (r9 k hk)⟩
    have q : bt 0 i = true := q
    rw [b_0] at q
    cases q
