/-! the reference's morning -/
variable {E : EN} {d : Nat} {σ : Mem} {R : RL}
def mornC : List Nat := [115, 116, 120]
theorem s_goesMorning {K : Int → Mem → Prop} (hd : 3 ≤ d) (hT : MT (σ 116)) (hRV : RV (σ 116) R) (hR : MRow σ (gM (σ 116)) R)
    (q : ∀ τ : Mem, Fr mornC σ τ → keep [22, 23] σ τ → TE (σ 116) (τ 116) → MRow τ (gM (σ 116)) [] → τ 116 79 = (mornF (σ 116) R (σ 116 79) (σ 116 80) (σ 116 83)).1 → τ 116 80 = (mornF (σ 116) R (σ 116 79) (σ 116 80) (σ 116 83)).2.1 → τ 116 83 = (mornF (σ 116) R (σ 116 79) (σ 116 80) (σ 116 83)).2.2.1 → τ 116 81 = σ 116 81 → τ 116 82 = w32 (σ 116 82 + 1) → K (mornF (σ 116) R (σ 116 79) (σ 116 80) (σ 116 83)).2.2.2 τ) : CI E y_Mod_goesMorning d [vr 115] σ K := by
  obtain ⟨r1, r2, r3, r4⟩ := id hR
  have T4 := hT.2.2.2.1
  have done : ∀ τ : Mem, Fr [116, 120] σ τ → TE (σ 116) (τ 116) → τ 116 79 = (mornF (σ 116) R (σ 116 79) (σ 116 80) (σ 116 83)).1 → τ 116 80 = (mornF (σ 116) R (σ 116 79) (σ 116 80) (σ 116 83)).2.1 → τ 116 83 = (mornF (σ 116) R (σ 116 79) (σ 116 80) (σ 116 83)).2.2.1 → τ 116 81 = σ 116 81 → τ 116 82 = σ 116 82 → CV E y_Mod_isNone (d - 1) [vr 115] (up τ 116 82 (w32 (τ 116 82 + 1))) (fun υ => K (mornF (σ 116) R (σ 116 79) (σ 116 80) (σ 116 83)).2.2.2 υ) := by
    intro τ hF hE e0 e1 e4 e2 e3
    refine c_Mod_isNone (b_Mod_isNone_0 ?_)
    generalize hM : up (up (up τ 116 82 (w32 (τ 116 82 + 1))) 115 22 0) 115 23 0 = M
    have m116 : ∀ k, M 116 k = up τ 116 82 (w32 (τ 116 82 + 1)) 116 k := fun k => by rw [← hM, up_nc (by decide), up_nc (by decide)]
    refine q M ?_ ?_ ?_ ?_ ?_ ?_ ?_ ?_ ?_
    · rw [← hM]; exact (((hF.wk (by decide)).up (by decide)).up (by decide)).up (by decide)
    · intro k hk
      have n : k ≠ 22 ∧ k ≠ 23 := by simpa using hk
      rw [← hM, up_nk n.2, up_nk n.1, up_nc (by decide), hF 115 (by decide)]
    · intro k hk; rw [m116]; exact TE.up hE (by omega) k hk
    · refine ⟨by rw [← hM, up_nk (by decide), up_same]; rfl, by simp, by rw [← hM, up_same]; rfl, trivial⟩
    · rw [m116, up_nk (by decide), e0]
    · rw [m116, up_nk (by decide), e1]
    · rw [m116, up_nk (by decide), e4]
    · rw [m116, up_nk (by decide), e2]
    · rw [m116, up_same, e3]
  have loop : ∀ (n i : Nat), i + n = R.length → ∀ (τ : Mem), Fr [116, 120] σ τ → TE (σ 116) (τ 116) → τ 116 79 = (mornS (σ 116) (kAt R) (σ 116 79, σ 116 80, σ 116 83, 0) i).1 → τ 116 80 = (mornS (σ 116) (kAt R) (σ 116 79, σ 116 80, σ 116 83, 0) i).2.1 → τ 116 83 = (mornS (σ 116) (kAt R) (σ 116 79, σ 116 80, σ 116 83, 0) i).2.2.1 → τ 116 81 = σ 116 81 → τ 116 82 = σ 116 82 →
      Z E y_Mod_goesMorning d 4 [some (vr 115), some (vi (mornS (σ 116) (kAt R) (σ 116 79, σ 116 80, σ 116 83, 0) i).2.2.2), some (vi i)] [] τ (qi K) := by
    intro n
    induction n with
    | zero =>
      intro i hi τ hF hE e0 e1 e4 e2 e3
      have hi : i = R.length := by omega
      subst hi
      have t22 : τ 115 22 = R.length := by rw [hF 115 (by decide)]; exact r1
      refine b_Mod_goesMorning_4 (by omega) ⟨fun _ => done τ hF hE e0 e1 e4 e2 e3, fun z => ?_⟩
      rw [t22] at z; omega
    | succ n ih =>
      intro i hi τ hF hE e0 e1 e4 e2 e3
      have t22 : τ 115 22 = R.length := by rw [hF 115 (by decide)]; exact r1
      have s121 : σ 121 i = kAt R i := (r4.at i (by omega) (by omega)).1
      have t121 : τ 121 i = kAt R i := by rw [hF 121 (by decide)]; exact s121
      obtain ⟨x, hx, ek, -⟩ := kAt_mem hRV.mem (i : Int) (by omega) (by omega)
      have hk : 0 ≤ kAt R i ∧ kAt R i < σ 116 4 := by rw [ek]; exact hx.1
      refine b_Mod_goesMorning_4 (by omega) ⟨fun z => ?_, fun _ => ⟨by omega, ?_⟩⟩
      · rw [t22] at z; omega
      rw [t121]
      refine s_draw ?_
      have hx4 : up τ 116 79 (ior (τ 116 79) (ish 1 (kAt R i))) 116 83 = (mornS (σ 116) (kAt R) (σ 116 79, σ 116 80, σ 116 83, 0) i).2.2.1 := by rw [up_nk (by decide), e4]
      rw [hx4]
      generalize hM : up (up τ 116 79 (ior (τ 116 79) (ish 1 (kAt R i)))) 116 83 (dx (mornS (σ 116) (kAt R) (σ 116 79, σ 116 80, σ 116 83, 0) i).2.2.1) = M
      have mF : Fr [116, 120] σ M := by rw [← hM]; exact (hF.up (by decide)).up (by decide)
      have mE : TE (σ 116) (M 116) := by rw [← hM]; exact TE.up (TE.up hE (by omega)) (by omega)
      have m121 : M 121 i = kAt R i := by rw [mF 121 (by decide)]; exact s121
      have m4e : M 116 4 = σ 116 4 := mE 4 (by omega)
      have m0 : M 116 79 = (mornS (σ 116) (kAt R) (σ 116 79, σ 116 80, σ 116 83, 0) (i + 1)).1 := by rw [← hM, up_nk (by decide), up_same, e0]; rfl
      have m1 : M 116 80 = (mornS (σ 116) (kAt R) (σ 116 79, σ 116 80, σ 116 83, 0) i).2.1 := by rw [← hM, up_nk (by decide), up_nk (by decide), e1]
      have m4 : M 116 83 = (mornS (σ 116) (kAt R) (σ 116 79, σ 116 80, σ 116 83, 0) (i + 1)).2.2.1 := by rw [← hM, up_same]; rfl
      have m2 : M 116 81 = σ 116 81 := by rw [← hM, up_nk (by decide), up_nk (by decide), e2]
      have m3 : M 116 82 = σ 116 82 := by rw [← hM, up_nk (by decide), up_nk (by decide), e3]
      rw [m121]
      refine s_showsOf (by omega) (mE.mt hT) (by omega) (fun υ hU => ?_)
      rw [(mE.F hT (k := kAt R i) (x := 0) (by omega) (by omega)).2.2.2]
      have u : υ 116 = M 116 := hU.one (by decide)
      have uF : Fr [116, 120] σ υ := mF.tr (hU.wk (by decide))
      have uE : TE (σ 116) (υ 116) := by rw [u]; exact mE
      have u121 : υ 121 i = kAt R i := by rw [uF 121 (by decide)]; exact s121
      rw [← u] at m0 m1 m4 m2 m3
      rw [u121, wid (x := (i : Int) + 1) (by omega) (by omega)]
      refine ⟨fun hn => ?_, fun hge => ?_⟩
      · have := ih (i + 1) (by omega) (up υ 116 80 (ior (υ 116 80) (ish 1 (kAt R i)))) (uF.up (by decide)) (TE.up uE (by omega)) (by rw [up_nk (by decide), m0]) (by rw [up_same, m1]; exact (if_pos hn).symm) (by rw [up_nk (by decide), m4]) (by rw [up_nk (by decide), m2]) (by rw [up_nk (by decide), m3])
        rw [show (mornS (σ 116) (kAt R) (σ 116 79, σ 116 80, σ 116 83, 0) (i + 1)).2.2.2 = w32 ((mornS (σ 116) (kAt R) (σ 116 79, σ 116 80, σ 116 83, 0) i).2.2.2 + 1) from if_pos hn] at this
        exact this
      · have hn : ¬ (Int.tmod (ius (dx (mornS (σ 116) (kAt R) (σ 116 79, σ 116 80, σ 116 83, 0) i).2.2.1) 16) 100 < shF (σ 116) (kAt R i)) := by omega
        have := ih (i + 1) (by omega) υ uF uE m0 (by rw [m1]; exact (if_neg hn).symm) m4 m2 m3
        rw [show (mornS (σ 116) (kAt R) (σ 116 79, σ 116 80, σ 116 83, 0) (i + 1)).2.2.2 = (mornS (σ 116) (kAt R) (σ 116 79, σ 116 80, σ 116 83, 0) i).2.2.2 from if_neg hn] at this
        exact this
  exact c_Mod_goesMorning (b_Mod_goesMorning_0 (loop R.length 0 (by omega) σ Fr.rf TE.rf rfl rfl rfl rfl rfl))
