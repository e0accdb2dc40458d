/-! how things are at the start -/
theorem o116 (k : Int) : σ0 116 k = if k = 5 then 50 else 0 := by simp [σ0]
theorem o2 (k : Int) : σ0 2 k = if k = 5 then 50 else 0 := by simp [σ0]
theorem II0 : II σ0 := by
  have T0 : ∀ k, k ≠ 5 → σ0 116 k = 0 := fun k hk => by rw [o116, if_neg hk]
  have T5 : σ0 116 5 = 50 := by rw [o116, if_pos rfl]
  have R0 : ∀ k, k ≠ 5 → σ0 2 k = 0 := fun k hk => by rw [o2, if_neg hk]
  have R5 : σ0 2 5 = 50 := by rw [o2, if_pos rfl]
  have t1 := T0 1 (by decide)
  have t2 := T0 2 (by decide)
  have t3 := T0 3 (by decide)
  have t4 := T0 4 (by decide)
  have t6 := T0 6 (by decide)
  refine ⟨⟨by omega, by omega, by omega, by omega, by omega, by omega, fun i i0 i1 => by omega, fun h h0 h1 => by rw [T0 _ (by omega), T0 _ (by omega)]; omega, fun c c0 c1 => by omega, fun k k0 k1 => by omega, fun l l0 l1 => ⟨Or.inl (T0 _ (by omega)), fun z => absurd z (by rw [T0 _ (by omega)]; decide)⟩⟩, ⟨⟨by rw [R0 0 (by decide), t1], by rw [R0 1 (by decide), t2], by rw [R0 2 (by decide), t3], by rw [R0 3 (by decide), t4], by rw [R0 4 (by decide), T0 0 (by decide)], by rw [R5, T5], by rw [R0 6 (by decide), t6]⟩, fun h h0 h1 => by omega, fun c c0 c1 => by omega, fun k w k0 k1 => by omega, fun i i0 i1 => by omega, fun k k0 k1 => by omega⟩, fun A S a0 a1 hb => absurd hb (by rw [R0 18 (by decide), bt0]; decide), ?_, ⟨by simp [σ0], by simp [σ0], by simp [σ0], fun i i0 i1 => absurd i1 (by simp [σ0]; omega)⟩, fun t ht => Or.inl ?_, fun i hi => ⟨?_, fun z => absurd ?_ z⟩, ⟨by simp [σ0], by simp [σ0], fun i i0 i1 => absurd i1 (by simp [σ0]; omega), by simp [σ0], by simp [σ0]⟩, fun z => absurd (by simp [σ0]) z, by simp [σ0]⟩
  · rw [t2]
    refine ST.of ?_ ?_ ?_ ?_ ?_ ?_ ?_ ?_
    · rw [T0 79 (by decide)]; simp [σ0]
    · rw [T0 80 (by decide)]; simp [σ0]
    · rw [T0 81 (by decide)]; simp only [σ0]; decide +kernel
    · rw [T0 82 (by decide)]; simp [σ0]
    · rw [T0 83 (by decide)]; simp [σ0]
    · rw [T0 79 (by decide)]; omega
    · rw [T0 80 (by decide)]; omega
    · rw [T0 81 (by decide)]; omega
  · rcases (show t = 0 ∨ t = 1 ∨ t = 2 ∨ t = 3 by omega) with rfl | rfl | rfl | rfl <;> simp [σ0]
  · rcases (show i = 0 ∨ i = 1 by omega) with rfl | rfl <;> simp [σ0]
  · rcases (show i = 0 ∨ i = 1 by omega) with rfl | rfl <;> simp [σ0]
