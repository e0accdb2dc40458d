/-! a morning: the row is read, both sides -/
/-- after i letters of the row: read, found, the number drawn from, how many showed -/
def mornS (T : Int → Int) (a : Int → Int) (s0 : Int × Int × Int × Int) : Nat → Int × Int × Int × Int
  | 0 => s0
  | i + 1 => (ior (mornS T a s0 i).1 (ish 1 (a i)),
      if Int.tmod (ius (dx (mornS T a s0 i).2.2.1) 16) 100 < shF T (a i) then ior (mornS T a s0 i).2.1 (ish 1 (a i)) else (mornS T a s0 i).2.1,
      dx (mornS T a s0 i).2.2.1,
      if Int.tmod (ius (dx (mornS T a s0 i).2.2.1) 16) 100 < shF T (a i) then w32 ((mornS T a s0 i).2.2.2 + 1) else (mornS T a s0 i).2.2.2)
def mornF (T : Int → Int) (R : RL) (read found seed : Int) : Int × Int × Int × Int := mornS T (kAt R) (read, found, seed, 0) R.length
variable {E : EN} {d : Nat} {σ : Mem} {R : RL} {T : Int → Int}
theorem stg_ne {r : Nat} (h : isStg r) : r ≠ 73 ∧ r ≠ 74 ∧ r ≠ 10 ∧ r ∉ rowS 73 := by
  rcases h with rfl | rfl | rfl | rfl | rfl | rfl | rfl | rfl | rfl | rfl | rfl | rfl | rfl | rfl <;> decide
theorem s_Doer_readRow {K : Int → Mem → Prop} {r : Nat} (hd : 2 ≤ d) (hr : isStg r) (hT : MT T) (hP : HP σ T) (hRV : RV T R) (hR : RowC σ 73 (gM T) R)
    (q : ∀ τ : Mem, Fr (r :: rowS 73) σ τ → RowC τ 73 (gM T) [] → τ r 0 = (mornF T R (σ r 0) (σ r 1) (σ r 4)).1 → τ r 1 = (mornF T R (σ r 0) (σ r 1) (σ r 4)).2.1 → τ r 4 = (mornF T R (σ r 0) (σ r 1) (σ r 4)).2.2.1 → τ r 2 = σ r 2 → τ r 3 = w32 (σ r 3 + 1) → K (mornF T R (σ r 0) (σ r 1) (σ r 4)).2.2.2 τ) : CI E y_Doer_readRow d [vr 91, vr r] σ K := by
  obtain ⟨n73, n74, n10, nS⟩ := stg_ne hr
  obtain ⟨r1, r2, r3, r4, -⟩ := id hR
  have T4 := hT.2.2.2.1
  have done : ∀ τ : Mem, Fr [r] σ τ → τ r 0 = (mornF T R (σ r 0) (σ r 1) (σ r 4)).1 → τ r 1 = (mornF T R (σ r 0) (σ r 1) (σ r 4)).2.1 → τ r 4 = (mornF T R (σ r 0) (σ r 1) (σ r 4)).2.2.1 → τ r 2 = σ r 2 → τ r 3 = σ r 3 → CV E y_Row_clear (d - 1) [vr 73] (up τ r 3 (w32 (τ r 3 + 1))) (fun υ => K (mornF T R (σ r 0) (σ r 1) (σ r 4)).2.2.2 υ) := by
    intro τ hF e0 e1 e4 e2 e3
    refine s_Row_clear (g := gM T) (Or.inl rfl) (by omega) (fun υ hU hC => ?_)
    have er : υ r = up τ r 3 (w32 (τ r 3 + 1)) r := hU r nS
    refine q υ (Fr.tr ((hF.wk (by simp)).up (by simp)) (hU.wk (fun c hc => List.mem_cons_of_mem _ hc))) hC ?_ ?_ ?_ ?_ ?_
    · rw [er, up_nk (by decide), e0]
    · rw [er, up_nk (by decide), e1]
    · rw [er, up_nk (by decide), e4]
    · rw [er, up_nk (by decide), e2]
    · rw [er, up_same, e3]
  have loop : ∀ (n i : Nat), i + n = R.length → ∀ (τ : Mem) (o4 : Option AV), Fr [r] σ τ → τ r 0 = (mornS T (kAt R) (σ r 0, σ r 1, σ r 4, 0) i).1 → τ r 1 = (mornS T (kAt R) (σ r 0, σ r 1, σ r 4, 0) i).2.1 → τ r 4 = (mornS T (kAt R) (σ r 0, σ r 1, σ r 4, 0) i).2.2.1 → τ r 2 = σ r 2 → τ r 3 = σ r 3 →
      Z E y_Doer_readRow d 4 [some (vr 91), some (vr r), some (vi (mornS T (kAt R) (σ r 0, σ r 1, σ r 4, 0) i).2.2.2), some (vi i), o4] [] τ (qi K) := by
    intro n
    induction n with
    | zero =>
      intro i hi τ o4 hF e0 e1 e4 e2 e3
      have hi : i = R.length := by omega
      subst hi
      have t73 : τ 73 1 = R.length := by rw [hF.one (by omega)]; exact r1
      refine b_Doer_readRow_4 hr (by omega) ⟨fun _ => done τ hF e0 e1 e4 e2 e3, fun z => ?_⟩
      rw [t73] at z; omega
    | succ n ih =>
      intro i hi τ o4 hF e0 e1 e4 e2 e3
      have t73 : τ 73 1 = R.length := by rw [hF.one (by omega)]; exact r1
      have t74 : τ 74 i = kAt R i := by rw [hF.one (by omega)]; exact (r4.at i (by omega) (by omega)).1
      obtain ⟨x, hx, ek, -⟩ := kAt_mem hRV.mem (i : Int) (by omega) (by omega)
      have hk : 0 ≤ kAt R i ∧ kAt R i < T 4 := by rw [ek]; exact hx.1
      refine b_Doer_readRow_4 hr (by omega) ⟨fun z => ?_, fun _ => ⟨fun z => ?_, fun _ => ⟨by omega, ?_⟩⟩⟩
      · rw [t73] at z; omega
      · omega
      rw [t74]
      refine c_Stg_draw (b_Stg_draw_0 hr ⟨by omega, ?_⟩)
      generalize hM : up (up τ r 0 (ior (τ r 0) (ish 1 (kAt R i)))) r 4 (w32 (w32 (1103515245 * up τ r 0 (ior (τ r 0) (ish 1 (kAt R i))) r 4) + 12345)) = M
      have hx4 : up τ r 0 (ior (τ r 0) (ish 1 (kAt R i))) r 4 = (mornS T (kAt R) (σ r 0, σ r 1, σ r 4, 0) i).2.2.1 := by rw [up_nk (by decide), e4]
      rw [hx4] at hM ⊢
      have mF : Fr [r] σ M := by rw [← hM]; exact (hF.up (by simp)).up (by simp)
      have m10 : M 10 (kAt R i) = shF T (kAt R i) := by rw [mF.one (by omega)]; exact (hP.2.2.2.2 _ hk.1 hk.2).1
      have m0 : M r 0 = (mornS T (kAt R) (σ r 0, σ r 1, σ r 4, 0) (i + 1)).1 := by rw [← hM, up_nk (by decide), up_same, e0]; rfl
      have m1 : M r 1 = (mornS T (kAt R) (σ r 0, σ r 1, σ r 4, 0) i).2.1 := by rw [← hM, up_nk (by decide), up_nk (by decide), e1]
      have m4 : M r 4 = (mornS T (kAt R) (σ r 0, σ r 1, σ r 4, 0) (i + 1)).2.2.1 := by rw [← hM, up_same]; rfl
      have m2 : M r 2 = σ r 2 := by rw [← hM, up_nk (by decide), up_nk (by decide), e2]
      have m3 : M r 3 = σ r 3 := by rw [← hM, up_nk (by decide), up_nk (by decide), e3]
      rw [m10, wid (x := (i : Int) + 1) (by omega) (by omega)]
      refine ⟨fun hge => ?_, fun hlt => ?_⟩
      · have hn : ¬ (Int.tmod (ius (dx (mornS T (kAt R) (σ r 0, σ r 1, σ r 4, 0) i).2.2.1) 16) 100 < shF T (kAt R i)) := by unfold dx; omega
        have := ih (i + 1) (by omega) M (some (vi (kAt R i))) mF m0 (by rw [m1]; exact (if_neg hn).symm) m4 m2 m3
        rw [show (mornS T (kAt R) (σ r 0, σ r 1, σ r 4, 0) (i + 1)).2.2.2 = (mornS T (kAt R) (σ r 0, σ r 1, σ r 4, 0) i).2.2.2 from if_neg hn] at this
        exact this
      · have hn : Int.tmod (ius (dx (mornS T (kAt R) (σ r 0, σ r 1, σ r 4, 0) i).2.2.1) 16) 100 < shF T (kAt R i) := hlt
        have := ih (i + 1) (by omega) (up M r 1 (ior (M r 1) (ish 1 (kAt R i)))) (some (vi (kAt R i))) (mF.up (by simp)) (by rw [up_nk (by decide), m0]) (by rw [up_same, m1]; exact (if_pos hn).symm) (by rw [up_nk (by decide), m4]) (by rw [up_nk (by decide), m2]) (by rw [up_nk (by decide), m3])
        rw [show (mornS T (kAt R) (σ r 0, σ r 1, σ r 4, 0) (i + 1)).2.2.2 = w32 ((mornS T (kAt R) (σ r 0, σ r 1, σ r 4, 0) i).2.2.2 + 1) from if_pos hn] at this
        exact this
  exact c_Doer_readRow (b_Doer_readRow_0 hr (loop R.length 0 (by omega) σ none Fr.rf rfl rfl rfl rfl rfl))
