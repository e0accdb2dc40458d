/-! seed, sleeps, undo -/
theorem ST.of {σ : Mem} {s : Nat} {H : Int} {T : Int → Int} (h0 : σ s 0 = T 79) (h1 : σ s 1 = T 80) (h2 : σ s 2 = ian (2 ^ H.toNat - 1) (ixo (T 81) (-1))) (h3 : σ s 3 = T 82) (h4 : σ s 4 = T 83) (b0 : 0 ≤ T 79 ∧ T 79 < 64) (b1 : 0 ≤ T 80 ∧ T 80 < 64) (b2 : 0 ≤ T 81 ∧ T 81 < 8) : ST σ s H (fun k => T (79 + k)) := ⟨h0, h1, h2, h3, h4, b0, b1, b2⟩
theorem ST.to {σ : Mem} {s : Nat} {H : Int} {T : Int → Int} (h : ST σ s H (fun k => T (79 + k))) : σ s 0 = T 79 ∧ σ s 1 = T 80 ∧ σ s 2 = ian (2 ^ H.toNat - 1) (ixo (T 81) (-1)) ∧ σ s 3 = T 82 ∧ σ s 4 = T 83 ∧ (0 ≤ T 79 ∧ T 79 < 64) ∧ (0 ≤ T 80 ∧ T 80 < 64) ∧ (0 ≤ T 81 ∧ T 81 < 8) := h
theorem xo_1 : ∀ (H : Fin 4) (a : Fin 8) (h : Fin 3), h.val < H.val → ixo (ian (2 ^ H.val - 1) (ixo (a.val : Int) (-1))) (ish 1 (h.val : Int)) = ian (2 ^ H.val - 1) (ixo (ixo (a.val : Int) (ish 1 (h.val : Int))) (-1)) := by decide +kernel
theorem xo_aw {H a h : Int} (hH : 0 ≤ H ∧ H ≤ 3) (ha : 0 ≤ a ∧ a < 8) (hh : 0 ≤ h ∧ h < H) : ixo (ian (2 ^ H.toNat - 1) (ixo a (-1))) (ish 1 h) = ian (2 ^ H.toNat - 1) (ixo (ixo a (ish 1 h)) (-1)) := by
  have := xo_1 ⟨H.toNat, by omega⟩ ⟨a.toNat, by omega⟩ ⟨h.toNat, by omega⟩ (by show h.toNat < H.toNat; omega)
  simp only [show ((a.toNat : Nat) : Int) = a by omega, show ((h.toNat : Nat) : Int) = h by omega] at this
  exact this
theorem xo_2 : ∀ (a : Fin 8) (h : Fin 3), 0 ≤ ixo (a.val : Int) (ish 1 (h.val : Int)) ∧ ixo (a.val : Int) (ish 1 (h.val : Int)) < 8 := by decide +kernel
theorem xo_lt {a h : Int} (ha : 0 ≤ a ∧ a < 8) (hh : 0 ≤ h ∧ h < 3) : 0 ≤ ixo a (ish 1 h) ∧ ixo a (ish 1 h) < 8 := by
  have := xo_2 ⟨a.toNat, by omega⟩ ⟨h.toNat, by omega⟩
  simp only [show ((a.toNat : Nat) : Int) = a by omega, show ((h.toNat : Nat) : Int) = h by omega] at this
  exact this
theorem k115 {k : Int} (h : k ∈ [5, 13, 14, 33]) : k ≠ 0 ∧ k ∉ [22, 23] := by
  simp at h; rcases h with rfl | rfl | rfl | rfl <;> decide
theorem sp9 : SP9 II := by
  intro E σ v hI hR hv
  obtain ⟨hT, hH, -, hS, hPa, -⟩ := id hI
  have x4 : σ 50 4 = σ 116 83 := hS.2.2.2.2.1
  have n10 := hPa.2.1
  refine c_BC_seed (b_BC_seed_0 (by omega) (s_Past_keep (by omega) hPa.c hS (fun τ hF hC => ?_)))
  refine c_Mod_seed (b_Mod_seed_0 (by omega) (s_keeps (fun τ1 hF1 hw => ?_)))
  have f1 : ∀ c, c ∉ pasC → c ≠ 50 → c ≠ 115 → c ≠ 126 → τ1 c = σ c := fun c a1 a2 a3 a4 => by rw [hF1.one a4, up_cell a3, up_cell a2, hF c a1]
  have e6 : τ1 116 = σ 116 := f1 116 (by decide) (by decide) (by decide) (by decide)
  have w6 : ∀ k : Int, 0 ≤ k → k < 5 → τ1 126 k = σ 116 (79 + k) := fun k k0 k1 => by rw [hw k k0 k1, up_cell (by decide), up_cell (by decide), hF 116 (by decide)]
  refine s_notes n10 (hPa.m.fr n10.2 (fun k k0 k1 => by rw [up_nk (by omega), e6])) (f := fun k => σ 116 (79 + k)) (fun k k0 k1 => by rw [up_nc (by decide)]; exact w6 k k0 k1) (fun τ2 hF2 ho hM => ?_)
  have g : ∀ c, c ≠ 116 → τ2 c = τ1 c := fun c hc => by rw [hF2.one hc, up_cell hc]
  have g50 : ∀ k, τ2 50 k = if k = 4 then v else σ 50 k := fun k => by
    rw [g 50 (by decide), hF1.one (by decide), up_nc (by decide)]
    by_cases e : k = 4
    · subst e; rw [up_same, if_pos rfl]
    · rw [up_nk e, if_neg e, hF 50 (by decide)]
  have g116 : ∀ k : Int, ¬ (84 ≤ k ∧ k < 135) → τ2 116 k = if k = 83 then v else σ 116 k := fun k hk => by
    rw [ho k hk]
    by_cases e : k = 83
    · subst e; rw [up_same, if_pos rfl]
    · rw [up_nk e, if_neg e, e6]
  refine ⟨?_, hI.deed ?_ ?_ ?_ ?_ (hC.fr (fun c c0 c1 c2 => ?_)) hM ?_⟩
  · rw [g 126 (by decide), w6 4 (by omega) (by omega)]; exact x4
  · intro c hc
    have n1 : c ∉ pasC ∧ c ≠ 50 ∧ c ≠ 115 ∧ c ≠ 126 ∧ c ≠ 116 := by simp [dee, scrt, pasC] at hc ⊢; omega
    rw [g c n1.2.2.2.2]; exact f1 c n1.1 n1.2.1 n1.2.2.1 n1.2.2.2.1
  · intro k hk
    rw [g 115 (by decide), hF1.one (by decide), up_nk (k115 hk).1, up_cell (by decide), hF 115 (by decide)]
  · intro k h0 hk; rw [g116 k (by omega), if_neg (by omega)]
  · intro k hk; rw [g116 k (by omega), if_neg (by omega)]
  · rw [g c (by omega), hF1.one (by omega), up_cell (by omega), up_cell (by omega)]
  · obtain ⟨s0, s1, s2, s3, s4, s5, s6, s7⟩ := hS.to
    refine ST.of ?_ ?_ ?_ ?_ ?_ ?_ ?_ ?_
    · rw [g50, if_neg (by decide), g116 _ (by decide), if_neg (by decide)]; exact s0
    · rw [g50, if_neg (by decide), g116 _ (by decide), if_neg (by decide)]; exact s1
    · rw [g50, if_neg (by decide), g116 _ (by decide), if_neg (by decide)]; exact s2
    · rw [g50, if_neg (by decide), g116 _ (by decide), if_neg (by decide)]; exact s3
    · rw [g50, if_pos rfl, g116 _ (by decide), if_pos (by decide)]
    · rw [g116 _ (by decide), if_neg (by decide)]; exact s5
    · rw [g116 _ (by decide), if_neg (by decide)]; exact s6
    · rw [g116 _ (by decide), if_neg (by decide)]; exact s7
theorem sp12 : SP12 II := by
  intro E σ v hI hR hv
  obtain ⟨hT, hH, -, hS, hPa, -⟩ := id hI
  have h2r : isRoom 2 := Or.inl rfl
  have t2 := hT.2.1
  have c1 : σ 2 1 = σ 116 2 := hH.1.2.1
  have n10 := hPa.2.1
  have r2 : σ 50 2 = ian (2 ^ (σ 116 2).toNat - 1) (ixo (σ 116 81) (-1)) := hS.2.2.1
  have r81 : 0 ≤ σ 116 81 ∧ σ 116 81 < 8 := hS.2.2.2.2.2.2.2
  have e6' : (up σ 115 0 0) 116 = σ 116 := up_cell (by decide)
  refine c_BC_sleeps (b_BC_sleeps_0 (by omega) (s_Room_hasHand h2r (by omega) (fun hh => ⟨fun _ => ?_, fun z => absurd z (by decide)⟩) (fun hh => ⟨fun z => absurd rfl z, fun _ => ?_⟩)))
  · rw [c1] at hh
    refine s_Past_keep (by omega) hPa.c hS (fun τ hF hC => ?_)
    have t50 : τ 50 = σ 50 := hF 50 (by decide)
    rw [t50, r2, xo_aw t2 r81 hh]
    have lt := xo_lt r81 (h := v) (by omega)
    rw [bit_eq (by have := aw_lt t2 lt; have := pw8 t2; unfold i32; omega) (by omega), aw_bt t2 lt (by omega)]
    generalize hM0 : up τ 50 2 (ian (2 ^ (σ 116 2).toNat - 1) (ixo (ixo (σ 116 81) (ish 1 v)) (-1))) = M
    have m6 : M 116 = σ 116 := by rw [← hM0, up_cell (by decide), hF 116 (by decide)]
    have m6' : (up M 115 0 0) 116 = σ 116 := by rw [up_cell (by decide), m6]
    refine c_Mod_sleeps (b_Mod_sleeps_0 (by omega) (s_isHand (by omega) (by rw [m6']; exact t2) (fun z => ⟨fun _ => ?_, fun y => absurd y (by decide)⟩) (fun z => absurd hh (by rw [m6'] at z; exact z))))
    refine s_keeps (fun τ1 hF1 hw => ?_)
    have e6 : τ1 116 = σ 116 := by rw [hF1.one (by decide), m6']
    have w6 : ∀ k : Int, 0 ≤ k → k < 5 → τ1 126 k = σ 116 (79 + k) := fun k k0 k1 => by rw [hw k k0 k1, m6']
    rw [e6]
    refine s_notes n10 (hPa.m.fr n10.2 (fun k k0 k1 => by rw [up_nk (by omega), e6])) (f := fun k => σ 116 (79 + k)) (fun k k0 k1 => by rw [up_nc (by decide)]; exact w6 k k0 k1) (fun τ2 hF2 ho hM => ?_)
    have g : ∀ c, c ≠ 116 → τ2 c = τ1 c := fun c hc => by rw [hF2.one hc, up_cell hc]
    have g50 : ∀ k, τ2 50 k = if k = 2 then ian (2 ^ (σ 116 2).toNat - 1) (ixo (ixo (σ 116 81) (ish 1 v)) (-1)) else σ 50 k := fun k => by
      rw [g 50 (by decide), hF1.one (by decide), up_nc (by decide), ← hM0]
      by_cases e : k = 2
      · subst e; rw [up_same, if_pos rfl]
      · rw [up_nk e, if_neg e, hF 50 (by decide)]
    have g116 : ∀ k : Int, ¬ (84 ≤ k ∧ k < 135) → τ2 116 k = if k = 81 then ixo (σ 116 81) (ish 1 v) else σ 116 k := fun k hk => by
      rw [ho k hk]
      by_cases e : k = 81
      · subst e; rw [up_same, if_pos rfl]
      · rw [up_nk e, if_neg e, e6]
    have fin : II τ2 := by
      refine hI.deed ?_ ?_ ?_ ?_ (hC.fr (fun c c0 c1 c2 => ?_)) hM ?_
      · intro c hc
        have n1 : c ∉ pasC ∧ c ≠ 50 ∧ c ≠ 115 ∧ c ≠ 126 ∧ c ≠ 116 := by simp [dee, scrt, pasC] at hc ⊢; omega
        rw [g c n1.2.2.2.2, hF1.one n1.2.2.2.1, up_cell n1.2.2.1, ← hM0, up_cell n1.2.1, hF c n1.1]
      · intro k hk
        rw [g 115 (by decide), hF1.one (by decide), up_nk (k115 hk).1, ← hM0, up_cell (by decide), hF 115 (by decide)]
      · intro k h0 hk; rw [g116 k (by omega), if_neg (by omega)]
      · intro k hk; rw [g116 k (by omega), if_neg (by omega)]
      · rw [g c (by omega), hF1.one (by omega), up_cell (by omega), ← hM0, up_cell (by omega)]
      · obtain ⟨s0, s1, s2, s3, s4, s5, s6, s7⟩ := hS.to
        refine ST.of ?_ ?_ ?_ ?_ ?_ ?_ ?_ ?_
        · rw [g50, if_neg (by decide), g116 _ (by decide), if_neg (by decide)]; exact s0
        · rw [g50, if_neg (by decide), g116 _ (by decide), if_neg (by decide)]; exact s1
        · rw [g50, if_pos rfl, g116 _ (by decide), if_pos (by decide)]
        · rw [g50, if_neg (by decide), g116 _ (by decide), if_neg (by decide)]; exact s3
        · rw [g50, if_neg (by decide), g116 _ (by decide), if_neg (by decide)]; exact s4
        · rw [g116 _ (by decide), if_neg (by decide)]; exact s5
        · rw [g116 _ (by decide), if_neg (by decide)]; exact s6
        · rw [g116 _ (by decide), if_pos (by decide)]; exact lt
    rw [g116 81 (by decide), if_pos rfl]
    refine s_isIn (by unfold i64; omega) (by omega) ⟨fun e => ⟨by rw [if_pos ⟨hh.2, e⟩], fin⟩, fun e => ⟨by rw [if_neg (fun y => e y.2)], fin⟩⟩
  · rw [c1] at hh
    exact c_Mod_sleeps (b_Mod_sleeps_0 (by omega) (s_isHand (by omega) (by rw [e6']; exact t2) (fun z => absurd z (by rw [e6']; exact hh)) (fun z => ⟨fun y => absurd rfl y, fun _ => ⟨rfl, hI.thr⟩⟩)))
section
variable {E : EN} {d : Nat} {σ : Mem}
theorem s_Past_bringBack {K : Mem → Prop} {H N n : Int} {F : Int → Int → Int} (hd : 1 ≤ d) (hn : 1 ≤ n ∧ n ≤ N) (hC : PastC σ H N F) (q : ∀ τ : Mem, Fr [50, 52] σ τ → τ 52 2 = N - n → PastC τ H (N - n) F → ST τ 50 H (F (N - n)) → K τ) : CV E y_Past_bringBack d [vr 52, vi n, vr 50] σ K := by
  obtain ⟨h1, h2, h3, h4⟩ := hC
  refine c_Past_bringBack (b_Past_bringBack_0 stg50 hd ⟨fun z => absurd z (by omega), fun _ => ⟨fun z => absurd z (by omega), fun _ => ?_⟩⟩)
  rw [h2, wid (x := N - n) (by omega) (by omega), wid (x := σ 52 1 + (N - n)) (by omega) (by omega), Int.tmod_eq_emod_of_nonneg (by omega)]
  refine ⟨by omega, s_Stg_become stg50 (kstg (by omega)) (by omega) (fun τ hF hv => ?_)⟩
  have e52 : ∀ k, τ 52 k = if k = 2 then N - n else σ 52 k := fun k => by
    rw [hF.one (by decide)]
    by_cases e : k = 2
    · subst e; rw [up_same, if_pos rfl]
    · rw [up_nk e, if_neg e]
  have ek : ∀ c, c ≠ 50 → c ≠ 52 → τ c = σ c := fun c a b => by rw [hF.one a, up_cell b]
  have e1 : τ 52 1 = σ 52 1 := by rw [e52, if_neg (by decide)]
  have e2 : τ 52 2 = N - n := by rw [e52, if_pos rfl]
  refine q τ (fun c hc => ek c (fun z => hc (by simp [z])) (fun z => hc (by simp [z]))) e2 ⟨by rw [e1]; exact h1, e2, by omega, fun i i0 i1 => ?_⟩ ?_
  · rw [e1]
    exact (h4 i i0 (by omega)).fr (fun k _ _ => by rw [ek _ (by omega) (by omega)]) (fun _ _ _ => rfl)
  · refine (h4 (N - n) (by omega) (by omega)).fr (fun k k0 k1 => ?_) (fun _ _ _ => rfl)
    rw [hv k k0 k1, up_nc (by omega)]
end
theorem sp13 : SP13 II := by
  intro E σ v hI hR hv
  obtain ⟨hT, hH, -, hS, hPa, -⟩ := id hI
  have n10 := hPa.2.1
  have n84 := hPa.2.2.1
  have e6' : (up σ 115 0 0) 116 = σ 116 := up_cell (by decide)
  have M0 : (v < 1 ∨ 10 < v ∨ σ 52 2 < v) → CI E y_Mod_undo 400 [vr 115, vi v] σ (fun y υ => -3 = y ∧ II υ) := by
    intro h0
    refine c_Mod_undo (b_Mod_undo_0 (by omega) (s_within (fun z => ⟨fun y => absurd y (by decide), fun _ => ?_⟩) (fun z => ⟨fun _ => ⟨rfl, hI.thr⟩, fun y => absurd rfl y⟩)))
    rw [e6', n84]
    exact ⟨fun y => absurd y (by omega), fun _ => ⟨rfl, hI.thr⟩⟩
  refine c_BC_undo (b_BC_undo_0 (by omega) ⟨fun a => M0 (by omega), fun a => ⟨fun b => M0 (by omega), fun b => ⟨fun c => ?_, fun c => M0 (by omega)⟩⟩⟩)
  refine s_Past_bringBack (by omega) ⟨a, c⟩ hPa.c (fun τ hF e2 hC hS2 => ?_)
  rw [e2]
  have t6 : τ 116 = σ 116 := hF 116 (by decide)
  refine c_Mod_undo (b_Mod_undo_0 (by omega) (s_within (fun z => ⟨fun y => absurd y (by decide), fun _ => ?_⟩) (fun z => absurd ⟨a, b⟩ z)))
  have t6' : (up τ 115 0 0) 116 = σ 116 := by rw [up_cell (by decide), t6]
  rw [t6', n84]
  refine ⟨fun _ => ?_, fun z => absurd z (by omega)⟩
  rw [wid (x := σ 52 2 - v) (by omega) (by omega)]
  generalize hM0 : up (up τ 115 0 0) 116 84 (σ 52 2 - v) = M
  have m6 : ∀ k, M 116 k = if k = 84 then σ 52 2 - v else σ 116 k := fun k => by
    rw [← hM0]
    by_cases e : k = 84
    · subst e; rw [up_same, if_pos rfl]
    · rw [up_nk e, if_neg e, t6']
  have loop : ∀ (m : Nat) (i : Int) (τ1 : Mem) (o : Option AV), 0 ≤ i → i + m = 5 → Fr [116] M τ1 → (∀ k : Int, 0 ≤ k → k < i → τ1 116 (79 + k) = σ 116 (85 + 5 * (σ 52 2 - v) + k)) → (∀ k : Int, ¬ (79 ≤ k ∧ k < 84) → τ1 116 k = M 116 k) → Z E y_Mod_undo 400 44 [some (vr 115), o, some (vi i)] [] τ1 (qi fun y υ => σ 52 2 - v = y ∧ II υ) := by
    intro m
    induction m with
    | zero =>
      intro i τ1 o h0 hi hF1 hw ho
      refine b_Mod_undo_44 (a1 := 0) ⟨fun _ => ⟨?_, ?_⟩, fun z => absurd z (by omega)⟩
      · rw [ho 84 (by omega), m6, if_pos rfl]
      · have g : ∀ c, c ≠ 116 → τ1 c = up τ 115 0 0 c := fun c hc => by rw [hF1.one hc, ← hM0, up_cell hc]
        have g116 : ∀ k : Int, ¬ (79 ≤ k ∧ k < 84) → τ1 116 k = if k = 84 then σ 52 2 - v else σ 116 k := fun k hk => by rw [ho k hk, m6]
        refine hI.deed ?_ ?_ ?_ ?_ (hC.fr (fun c c0 c1 c2 => ?_)) ⟨?_, fun i k i0 i1 k0 k1 => ?_⟩ ?_
        · intro c hc
          have n1 : c ≠ 50 ∧ c ≠ 52 ∧ c ≠ 115 ∧ c ≠ 116 := by simp [dee, scrt] at hc ⊢; omega
          rw [g c n1.2.2.2, up_cell n1.2.2.1, hF c (by simp [n1])]
        · intro k hk
          rw [g 115 (by decide), up_nk (k115 hk).1, hF 115 (by decide)]
        · intro k h0 hk; rw [g116 k (by omega), if_neg (by omega)]
        · intro k hk; rw [g116 k (by omega), if_neg (by omega)]
        · rw [g c (by omega), up_cell (by omega)]
        · rw [g116 84 (by omega), if_pos rfl]
        · rw [g116 _ (by omega), if_neg (by omega)]
        · refine hS2.fr (fun k k0 k1 => ?_) (fun k k0 k1 => hw k k0 (by omega))
          rw [g 50 (by decide), up_nc (by decide)]
    | succ m ih =>
      intro i τ1 o h0 hi hF1 hw ho
      refine b_Mod_undo_44 (a1 := 0) ⟨fun z => absurd z (by omega), fun _ => ?_⟩
      have e84 : τ1 116 84 = σ 52 2 - v := by rw [ho 84 (by omega), m6, if_pos rfl]
      rw [e84, wid (x := 5 * (σ 52 2 - v)) (by omega) (by omega), wid (x := 85 + 5 * (σ 52 2 - v)) (by omega) (by omega), wid (x := 85 + 5 * (σ 52 2 - v) + i) (by omega) (by omega), wid (x := 79 + i) (by omega) (by omega), wid (x := i + 1) (by omega) (by omega)]
      refine ⟨by omega, by omega, ih (i + 1) _ _ (by omega) (by omega) (hF1.up (by simp)) (fun k k0 k1 => ?_) (fun k hk => ?_)⟩
      · by_cases e : k = i
        · subst e; rw [up_same, ho _ (by omega), m6, if_neg (by omega)]
        · rw [up_nk (by omega)]; exact hw k k0 (by omega)
      · rw [up_nk (by omega)]; exact ho k hk
  exact loop 5 0 M _ (by omega) (by omega) Fr.rf (fun k k0 k1 => absurd k1 (by omega)) (fun _ _ => rfl)
