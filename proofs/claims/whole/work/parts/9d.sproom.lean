/-! room -/
theorem all_h {H : Int} (h : 0 ≤ H ∧ H ≤ 3) : (2 : Int) ^ H.toNat - 1 = ian (2 ^ H.toNat - 1) (ixo 0 (-1)) := by
  rcases (show H = 0 ∨ H = 1 ∨ H = 2 ∨ H = 3 by omega) with rfl | rfl | rfl | rfl <;> decide +kernel
def rmC : List Nat := 0 :: 1 :: 118 :: scrt
theorem sp1 : SP1 II := by
  intro E σ v hI hR hv
  obtain ⟨iM, iH, iS, iST, iP, iTr, iIm, ⟨t1, t2, t3, t4, t5⟩, iPl, m33⟩ := id hI
  have bad : ¬ (0 ≤ v ∧ v ≤ σ 115 5) → CI E y_Mod_room 400 [vr 115, vi v] σ (fun y υ => -3 = y ∧ II υ) := fun hno =>
    c_Mod_room (b_Mod_room_0 (by omega) (s_within (fun z => absurd z hno) (fun _ => ⟨fun z => absurd rfl z, fun _ => ⟨rfl, hI.thr⟩⟩)))
  refine c_BC_room (b_BC_room_0 (by omega) ⟨fun lt => bad (by omega), fun h0 => ⟨fun le => ?_, fun gt => bad (by omega)⟩⟩)
  have hn : 0 ≤ v ∧ v ≤ 900 := ⟨h0, by omega⟩
  have hB : Byt (up σ 0 1 0) (σ 118) v := ⟨hn, fun p p0 p1 => by rw [up_nc (by decide)]; exact t3 p p0 (by omega)⟩
  have hT0 : tb0 (fun k => if 0 ≤ k ∧ k < 1036 then (if k = 5 then 50 else 0) else σ 119 k) := fun k k0 k1 => by
    show (if 0 ≤ k ∧ k < 1036 then (if k = 5 then (50 : Int) else 0) else σ 119 k) = _
    rw [if_pos ⟨k0, k1⟩]
  have hTo : ∀ k : Int, ¬ (0 ≤ k ∧ k < 1036) → (fun k => if 0 ≤ k ∧ k < 1036 then (if k = 5 then 50 else 0) else σ 119 k) k = σ 119 k := fun k hk => if_neg hk
  generalize hTT : (fun k => if 0 ≤ k ∧ k < 1036 then (if k = 5 then 50 else 0) else σ 119 k) = T at hT0 hTo
  refine s_read (T := T) (by omega) hT0 hB (fun N kd st vl en τ1 hT F1 hr => ?_)
  have hr := hr _ rfl
  have f1 : ∀ c, c ≠ 0 → c ∉ woC ++ rdC ++ [65, 66, 67] → τ1 c = σ c := fun c c0 hc => by rw [F1 c hc, up_cell c0]
  have a01 : τ1 0 1 = 0 := by rw [F1 0 (by decide), up_same]
  by_cases hz : (pRoom kd vl st (σ 118) T).1 = 0
  · obtain ⟨r1, r2, r3, r4, r5, r6, r7⟩ := hr.1 hz
    refine ⟨fun _ => ?_, fun z => absurd r1 z⟩
    rw [r1, r2]
    have G1 : Fr [0] τ1 (up (up τ1 0 2 0) 0 3 (-1)) := (Fr.rf.up (by simp)).up (by simp)
    have b1 : up (up τ1 0 2 0) 0 3 (-1) 0 1 = 0 := by rw [up_nk (by decide), up_nk (by decide)]; exact a01
    have b2 : up (up τ1 0 2 0) 0 3 (-1) 0 2 = 0 := by rw [up_nk (by decide), up_same]
    have b3 : up (up τ1 0 2 0) 0 3 (-1) 0 3 = -1 := up_same _ _ _ _
    generalize up (up τ1 0 2 0) 0 3 (-1) = M at G1 b1 b2 b3 ⊢
    have hH14 : HR M 14 (pRoom kd vl st (σ 118) T).2.2 := r4.fr (fun c c0 c1 => G1.one (by omega))
    have r2b := r5.2.1
    refine s_Room_become (by omega) (Or.inl rfl) (Or.inr (Or.inl rfl)) (by omega) (fun τ2 F2 C2 => ?_)
    have hH2 : HR τ2 2 (pRoom kd vl st (σ 118) T).2.2 := HR.cp r5 hH14 C2
    have e21 : τ2 2 1 = (pRoom kd vl st (σ 118) T).2.2 2 := hH2.1.2.1
    have e18 : τ2 2 18 = 0 := by rw [C2.2.1, G1.one (by decide)]; exact r3
    have e24 : τ2 2 4 = (pRoom kd vl st (σ 118) T).2.2 0 := hH2.1.2.2.2.2.1
    refine s_Room_allHands (Or.inl rfl) (by rw [e21]; exact r2b) ?_
    rw [e21]
    refine c_Stg_begin (b_Stg_begin_0 stg50 (c_Past_forget (b_Past_forget_0 (c_Plan_forget (b_Plan_forget_0 ?_)))))
    have n2 : ∀ c, ¬ (2 ≤ c ∧ c ≤ 13) → c ≠ 0 → τ2 c = τ1 c := fun c h1 h2 => by rw [F2 c (by simp [roomS]; omega), G1.one h2]
    have e0 : τ2 0 = M 0 := F2 0 (by decide)
    have hF6 : Fr [50, 52, 92] τ2 (up (up (up (up (up (up (up (up τ2 50 0 0) 50 1 0) 50 2 (2 ^ ((pRoom kd vl st (σ 118) T).2.2 2).toNat - 1)) 50 3 0) 50 4 0) 52 1 0) 52 2 0) 92 10 0) := (((((((Fr.rf.up (by decide)).up (by decide)).up (by decide)).up (by decide)).up (by decide)).up (by decide)).up (by decide)).up (by decide)
    have s50 : ∀ k : Int, up (up (up (up (up (up (up (up τ2 50 0 0) 50 1 0) 50 2 (2 ^ ((pRoom kd vl st (σ 118) T).2.2 2).toNat - 1)) 50 3 0) 50 4 0) 52 1 0) 52 2 0) 92 10 0 50 k = up (up (up (up (up τ2 50 0 0) 50 1 0) 50 2 (2 ^ ((pRoom kd vl st (σ 118) T).2.2 2).toNat - 1)) 50 3 0) 50 4 0 50 k := fun k => by rw [up_nc (by decide), up_nc (by decide), up_nc (by decide)]
    have p1 : up (up (up (up (up (up (up (up τ2 50 0 0) 50 1 0) 50 2 (2 ^ ((pRoom kd vl st (σ 118) T).2.2 2).toNat - 1)) 50 3 0) 50 4 0) 52 1 0) 52 2 0) 92 10 0 52 1 = 0 := by rw [up_nc (by decide), up_nk (by decide), up_same]
    have p2 : up (up (up (up (up (up (up (up τ2 50 0 0) 50 1 0) 50 2 (2 ^ ((pRoom kd vl st (σ 118) T).2.2 2).toNat - 1)) 50 3 0) 50 4 0) 52 1 0) 52 2 0) 92 10 0 52 2 = 0 := by rw [up_nc (by decide), up_same]
    have p10 : up (up (up (up (up (up (up (up τ2 50 0 0) 50 1 0) 50 2 (2 ^ ((pRoom kd vl st (σ 118) T).2.2 2).toNat - 1)) 50 3 0) 50 4 0) 52 1 0) 52 2 0) 92 10 0 92 10 = 0 := up_same _ _ _ _
    have q0 := (s50 0).trans (show _ = 0 by rw [up_nk (by decide), up_nk (by decide), up_nk (by decide), up_nk (by decide), up_same])
    have q1 := (s50 1).trans (show _ = 0 by rw [up_nk (by decide), up_nk (by decide), up_nk (by decide), up_same])
    have q2 := (s50 2).trans (show _ = (2 ^ ((pRoom kd vl st (σ 118) T).2.2 2).toNat - 1) by rw [up_nk (by decide), up_nk (by decide), up_same])
    have q3 := (s50 3).trans (show _ = 0 by rw [up_nk (by decide), up_same])
    have q4 := (s50 4).trans (show _ = 0 by rw [up_same])
    generalize up (up (up (up (up (up (up (up τ2 50 0 0) 50 1 0) 50 2 (2 ^ ((pRoom kd vl st (σ 118) T).2.2 2).toNat - 1)) 50 3 0) 50 4 0) 52 1 0) 52 2 0) 92 10 0 = τ6 at hF6 p1 p2 p10 q0 q1 q2 q3 q4 ⊢
    -- nothing else
    have f6 : ∀ c, ¬ (2 ≤ c ∧ c ≤ 13) → c ≠ 0 → c ≠ 50 → c ≠ 52 → c ≠ 92 → c ∉ woC ++ rdC ++ [65, 66, 67] → τ6 c = σ c := fun c h1 h2 h3 h4 h5 h6 => by rw [hF6 c (by simp; omega), n2 c h1 h2, f1 c h2 h6]
    have g2 : ∀ c, (c = 0 ∨ (2 ≤ c ∧ c ≤ 13)) → τ6 c = τ2 c := fun c hc => hF6 c (by simp; omega)
    rw [g2 2 (by omega), e24]
    refine t_room (T := T) (by omega) hn hT (f6 118 (by omega) (by decide) (by decide) (by decide) (by decide) (by decide)) (by rw [f6 115 (by omega) (by decide) (by decide) (by decide) (by decide) (by decide)]; omega) hT0 (fun k hk => by rw [f6 119 (by omega) (by decide) (by decide) (by decide) (by decide) (by decide)]; exact hTo k hk) (fun _ υ Fu u5 u33 u13 u14 uin uout => ⟨rfl, ?_⟩) (fun z => absurd hz z)
    generalize pRoom kd vl st (σ 118) T = r at *
    have X : TX r.2.2 (υ 116) := fun k k0 k1 => uin k k0 (by omega)
    have fu : ∀ c, c ≠ 115 → c ≠ 116 → c ≠ 119 → υ c = τ6 c := fun c a b e => Fu c (by simp [a, b, e])
    have fz : ∀ c, ¬ (2 ≤ c ∧ c ≤ 13) → c ≠ 0 → c ≠ 50 → c ≠ 52 → c ≠ 92 → c ∉ woC ++ rdC ++ [65, 66, 67] → c ≠ 115 → c ≠ 116 → c ≠ 119 → υ c = σ c := fun c h1 h2 h3 h4 h5 h6 a b e => by rw [fu c a b e, f6 c h1 h2 h3 h4 h5 h6]
    have R79 : ∀ k : Int, 79 ≤ k → k < 135 → υ 116 k = 0 := fun k k0 k1 => by rw [uin k (by omega) (by omega)]; exact r6.2.2.2.1 k k0 k1
    have mtu : MT (υ 116) := X.mt r5
    have hHu : HR υ 2 (υ 116) := (hH2.fr (fun c c0 c1 => by rw [fu c (by omega) (by omega) (by omega), g2 c (by omega)])).tx X r5
    have u0 : υ 0 = M 0 := by rw [fu 0 (by decide) (by decide) (by decide), g2 0 (by omega), e0]
    refine ⟨mtu, hHu, ?_, ?_, ?_, ?_, ?_, ?_, ?_, ?_⟩
    · intro A S a0 a1 hb
      rw [fu 2 (by decide) (by decide) (by decide), g2 2 (by omega), e18, bt0] at hb
      exact absurd hb (by decide)
    · have e2 : υ 116 2 = r.2.2 2 := uin 2 (by omega) (by omega)
      rw [e2]
      refine ST.of ?_ ?_ ?_ ?_ ?_ ?_ ?_ ?_
      · rw [fu 50 (by decide) (by decide) (by decide), q0, R79 79 (by omega) (by omega)]
      · rw [fu 50 (by decide) (by decide) (by decide), q1, R79 80 (by omega) (by omega)]
      · rw [fu 50 (by decide) (by decide) (by decide), q2, R79 81 (by omega) (by omega)]; exact all_h r2b
      · rw [fu 50 (by decide) (by decide) (by decide), q3, R79 82 (by omega) (by omega)]
      · rw [fu 50 (by decide) (by decide) (by decide), q4, R79 83 (by omega) (by omega)]
      · rw [R79 79 (by omega) (by omega)]; omega
      · rw [R79 80 (by omega) (by omega)]; omega
      · rw [R79 81 (by omega) (by omega)]; omega
    · have v1 : υ 52 1 = 0 := by rw [fu 52 (by decide) (by decide) (by decide)]; exact p1
      have v2 : υ 52 2 = 0 := by rw [fu 52 (by decide) (by decide) (by decide)]; exact p2
      exact ⟨by omega, by omega, by rw [v2]; exact R79 84 (by omega) (by omega), fun i i0 i1 => by omega⟩
    · refine iTr.fr (fun c c0 c1 => fz c (by omega) (by omega) (by omega) (by omega) (by omega) ?_ (by omega) (by omega) (by omega)) (fz 130 (by omega) (by decide) (by decide) (by decide) (by decide) (by decide) (by decide) (by decide) (by decide)) (fz 131 (by omega) (by decide) (by decide) (by decide) (by decide) (by decide) (by decide) (by decide) (by decide)) (fz 132 (by omega) (by decide) (by decide) (by decide) (by decide) (by decide) (by decide) (by decide) (by decide))
      simp [woC, rdC]; omega
    · refine iIm.fr (fun c c0 c1 => fz c (by omega) (by omega) (by omega) (by omega) (by omega) ?_ (by omega) (by omega) (by omega)) (fz 112 (by omega) (by decide) (by decide) (by decide) (by decide) (by decide) (by decide) (by decide) (by decide)) (fz 117 (by omega) (by decide) (by decide) (by decide) (by decide) (by decide) (by decide) (by decide) (by decide)) (fz 113 (by omega) (by decide) (by decide) (by decide) (by decide) (by decide) (by decide) (by decide) (by decide)) (fz 114 (by omega) (by decide) (by decide) (by decide) (by decide) (by decide) (by decide) (by decide) (by decide)) (fun k hk => ?_)
      · simp [woC, rdC]; omega
      · rw [uout k (by omega), f6 116 (by omega) (by decide) (by decide) (by decide) (by decide) (by decide)]
    · exact ⟨by rw [u0, b1, u5], by rw [u0, b1]; omega, fun i i0 i1 => by rw [u0, b1] at i1; omega, by rw [u0, b2, u13], by rw [u0, b3, u14]⟩
    · intro hp
      exact absurd (by rw [fu 92 (by decide) (by decide) (by decide)]; exact p10) hp
    · rw [u33, f6 115 (by omega) (by decide) (by decide) (by decide) (by decide) (by decide)]; exact m33
  · have hf := hr.2 hz
    have n7 : τ1 64 7 ≠ 0 := by rw [hf.1]; exact hz
    refine ⟨fun z => absurd z n7, fun _ => ?_⟩
    rw [hf.1, hf.2]
    have G1 : Fr [0] τ1 (up (up τ1 0 2 (pRoom kd vl st (σ 118) T).1) 0 3 (st (pRoom kd vl st (σ 118) T).2.1)) := (Fr.rf.up (by simp)).up (by simp)
    have b1 : up (up τ1 0 2 (pRoom kd vl st (σ 118) T).1) 0 3 (st (pRoom kd vl st (σ 118) T).2.1) 0 1 = 0 := by rw [up_nk (by decide), up_nk (by decide)]; exact a01
    have b2 : up (up τ1 0 2 (pRoom kd vl st (σ 118) T).1) 0 3 (st (pRoom kd vl st (σ 118) T).2.1) 0 2 = (pRoom kd vl st (σ 118) T).1 := by rw [up_nk (by decide), up_same]
    have b3 : up (up τ1 0 2 (pRoom kd vl st (σ 118) T).1) 0 3 (st (pRoom kd vl st (σ 118) T).2.1) 0 3 = st (pRoom kd vl st (σ 118) T).2.1 := up_same _ _ _ _
    generalize up (up τ1 0 2 (pRoom kd vl st (σ 118) T).1) 0 3 (st (pRoom kd vl st (σ 118) T).2.1) = M at G1 b1 b2 b3 ⊢
    have f6 : ∀ c, c ≠ 0 → c ∉ woC ++ rdC ++ [65, 66, 67] → M c = σ c := fun c h2 h6 => by rw [G1.one h2, f1 c h2 h6]
    refine t_room (T := T) (by omega) hn hT (f6 118 (by decide) (by decide)) (by rw [f6 115 (by decide) (by decide)]; omega) hT0 (fun k hk => by rw [f6 119 (by decide) (by decide)]; exact hTo k hk) (fun z => absurd z hz) (fun _ υ Fu u5 u33 u13 u14 => ⟨rfl, ?_⟩)
    have u0 : υ 0 = M 0 := Fu 0 (by decide)
    have FU : Fr (0 :: 1 :: 118 :: scrt) σ υ := by
      refine Fr.tr ?_ (Fu.wk (by decide))
      refine Fr.tr ?_ (G1.wk (by decide))
      exact (Fr.rf.up (by decide) : Fr (0 :: 1 :: 118 :: scrt) σ (up σ 0 1 0)).tr (F1.wk (by decide))
    refine hI.tape FU (by rw [u33, f6 115 (by decide) (by decide)]) ⟨by rw [u0, b1, u5], by rw [u0, b1]; omega, fun i i0 i1 => by rw [u0, b1] at i1; omega, by rw [u0, b2, u13], by rw [u0, b3, u14]⟩
theorem sp_all : SPall II := by
  unfold SPall
  refine ⟨sp0, sp1, sp2, sp3, sp4, sp5, sp6, sp7, sp8, sp9, sp10, sp11, sp12, sp13, sp14, sp15, sp16, sp17, sp18, sp19, sp20, sp21, sp22, sp23, sp24, sp25, sp26, sp27, sp28, sp29, sp30, sp31, sp32, sp33, sp34, sp35, sp36, sp37, sp38, sp39, sp40, sp41, sp42, sp43, sp44, sp45, sp46⟩
