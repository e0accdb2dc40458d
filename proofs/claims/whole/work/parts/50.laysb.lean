section
variable {E : EN} {d : Nat} {σ : Mem} {T : Int → Int}
theorem t_laysBelief {K : Mem → Prop} {s : Int} (hd : 2 ≤ d) (hT : MT T) (e6 : σ 116 = T) (hs : i32 s) (q : ∀ τ : Mem, Fr [115] σ τ → keep [36, 37] σ τ → τ 115 36 = chS T s 1 (T 4).toNat → τ 115 37 = chS T s 0 (T 4).toNat → K τ) : CV E y_Mod_laysBelief d [vr 115, vi s] σ K := by
  have t4 := hT.2.2.2.1
  have t5 := hT.2.2.2.2.1
  have loop : ∀ (m i : Nat) (τ : Mem) (o3 o4 : Option AV), (i : Int) + m = T 4 → Fr [115] σ τ → keep [36, 37] σ τ → τ 115 36 = chS T s 1 i → τ 115 37 = chS T s 0 i → Z E y_Mod_laysBelief d 28 [some (vr 115), some (vi s), some (vi (i : Int)), o3, o4] [] τ (qv K) := by
    intro m
    induction m with
    | zero =>
      intro i τ o3 o4 hi hF hK h36 h37
      have t6 : τ 116 = T := by rw [hF.one (by decide), e6]
      refine b_Mod_laysBelief_28 (by omega) ⟨fun _ => ?_, fun z => absurd z (by rw [t6]; omega)⟩
      have : i = (T 4).toNat := by omega
      rw [this] at h36 h37; exact q τ hF hK h36 h37
    | succ m ih =>
      intro i τ o3 o4 hi hF hK h36 h37
      have t6 : τ 116 = T := by rw [hF.one (by decide), e6]
      have c1 := chS_c hT (s := s) (w := 1) (n := i) (by omega)
      have c0 := chS_c hT (s := s) (w := 0) (n := i) (by omega)
      have h1 := (hT.2.2.2.2.2.2.2.2.2.1 i (by omega) (by omega)).1
      have h2 := hT.2.2.2.2.2.2.2.2.1 (T (37 + (i : Int))) h1.1 h1.2
      have t3 := hT.2.2.1
      have nx := fun τ o3 o4 => ih (i + 1) τ o3 o4 (by omega)
      simp only [chS] at nx
      refine b_Mod_laysBelief_28 (by omega) ⟨fun z => absurd z (by rw [t6]; omega), fun _ => ?_⟩
      rw [t6, wid (x := 73 + (i : Int)) (by omega) (by omega), wid (x := 37 + (i : Int)) (by omega) (by omega)]
      refine ⟨by omega, s_isIn (i32_64 hs) (by omega) ⟨fun e => ?_, fun e => ⟨fun e2 => ⟨by omega, ?_⟩, fun e2 => ?_⟩⟩⟩
      · have := nx τ (some (vi (T (73 + (i : Int))))) o4 hF hK
        rw [if_pos (Or.inl e), if_pos (Or.inl e)] at this
        rw [wid (x := (i : Int) + 1) (by omega) (by omega)]
        exact this h36 h37
      · rw [t6, wid (x := 33 + T (37 + (i : Int))) (by omega) (by omega)]
        have hc : ¬ (bt s i = 0 ∨ T (73 + (i : Int)) = 0) := fun z => z.elim e e2
        refine ⟨by omega, fun n1 => ?_, fun n1 => ?_⟩
        · have ef1 : fcF T 1 i = 100 - T (33 + T (37 + (i : Int))) := by unfold fcF; rw [if_neg n1, if_pos rfl]
          have ef0 : fcF T 0 i = T (33 + T (37 + (i : Int))) := by unfold fcF; rw [if_neg n1, if_neg (by decide)]
          refine b_Mod_laysBelief_106 ⟨fun _ => ?_, fun z => absurd z n1⟩
          rw [h36, h37, wid64 (x := 100 - T (33 + T (37 + (i : Int)))) (by omega) (by omega), wid2 c1 (by omega), wid2 c0 (by omega), wid (x := (i : Int) + 1) (by omega) (by omega)]
          have := nx (up (up τ 115 36 (chS T s 1 i * (100 - T (33 + T (37 + (i : Int)))))) 115 37 (chS T s 0 i * T (33 + T (37 + (i : Int))))) (some (vi (T (73 + (i : Int))))) (some (vi (T (33 + T (37 + (i : Int)))))) ((hF.up (by simp)).up (by simp)) ((hK.up (by decide)).up (by decide))
          rw [if_neg hc, if_neg hc, ef1, ef0] at this
          exact this (by rw [up_nk (by decide), up_same]) (by rw [up_same])
        · have ef1 : fcF T 1 i = T (33 + T (37 + (i : Int))) := by unfold fcF; rw [if_pos n1, if_pos rfl]
          have ef0 : fcF T 0 i = 100 - T (33 + T (37 + (i : Int))) := by unfold fcF; rw [if_pos n1, if_neg (by decide)]
          refine b_Mod_laysBelief_106 ⟨fun z => absurd n1 z, fun _ => ?_⟩
          rw [h36, h37, wid64 (x := 100 - T (33 + T (37 + (i : Int)))) (by omega) (by omega), wid2 c1 (by omega), wid2 c0 (by omega), wid (x := (i : Int) + 1) (by omega) (by omega)]
          have := nx (up (up τ 115 36 (chS T s 1 i * T (33 + T (37 + (i : Int))))) 115 37 (chS T s 0 i * (100 - T (33 + T (37 + (i : Int)))))) (some (vi (T (73 + (i : Int))))) (some (vi (T (33 + T (37 + (i : Int)))))) ((hF.up (by simp)).up (by simp)) ((hK.up (by decide)).up (by decide))
          rw [if_neg hc, if_neg hc, ef1, ef0] at this
          exact this (by rw [up_nk (by decide), up_same]) (by rw [up_same])
      · have := nx τ (some (vi (T (73 + (i : Int))))) o4 hF hK
        rw [if_pos (Or.inr e2), if_pos (Or.inr e2)] at this
        rw [wid (x := (i : Int) + 1) (by omega) (by omega)]
        exact this h36 h37
  refine c_Mod_laysBelief (b_Mod_laysBelief_0 ?_)
  rw [e6, wid64 (x := 100 - T 5) (by omega) (by omega)]
  exact loop (T 4).toNat 0 _ _ _ (by omega) ((Fr.rf.up (by simp)).up (by simp)) ((keep.rf.up (by decide)).up (by decide)) (by rw [up_nk (by decide), up_same]; rfl) (by rw [up_same]; rfl)
end
