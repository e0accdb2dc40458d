/-! lists -/
theorem sp43 : SP43 II := by
  intro E σ u hI hR hu
  obtain ⟨T, rd, A, hW⟩ := hI.pw
  have hW0 := hW
  obtain ⟨e6, hT, hH, hSo, hPl, h79, h50, hrd, hAe, h502, hA, h33⟩ := hW
  have hTr : TrayOK σ := hI.2.2.2.2.2.1
  have hTr' : TrayOK (up σ 115 0 0) := hI.thr.2.2.2.2.2.1
  refine c_BC_lists (b_BC_lists_0 (by omega) (s_trayCode (by omega) hTr (fun hn => ⟨fun z => absurd z (by decide), fun _ => ?_⟩) (fun hu4 hm => ⟨fun z => absurd z (by decide), fun _ => ?_⟩) (fun hu4 ru => ⟨fun _ => ?_, fun z => absurd rfl z⟩)))
  · exact c_Mod_lists (b_Mod_lists_0 (by omega) (s_noTray (by omega) (fun _ => ⟨fun z => absurd z (by decide), fun _ => ⟨rfl, hI.thr⟩⟩) (fun z => absurd z hn) (fun z => absurd z hn)))
  · exact c_Mod_lists (b_Mod_lists_0 (by omega) (s_noTray (by omega) (fun z => absurd hu4 z) (fun _ _ => ⟨fun z => absurd z (by decide), fun _ => ⟨rfl, hI.thr⟩⟩) (fun _ z => absurd (by rw [up_cell (by decide)]; exact hm) z)))
  · rw [h50, h502]
    refine s_Plan_plan (by omega) hT hA hrd hH hSo hPl (fun τ B hF h2 hS2 hP2 hB hD => ⟨hu4, s_Math_min ?_⟩)
    have hI2 := hI.pla hF h2 (by rw [e6]; exact hS2) (by rw [e6]; exact hP2)
    have hTr2 : TrayOK τ := hI2.2.2.2.2.2.1
    have et : ∀ c, 96 ≤ c → τ c = σ c := fun c c0 => hF c (by simp [paC]; omega)
    have hl := RV.len hT hB.1.1.1
    have ru2 : Tr τ u := by
      unfold Tr
      rw [et (102 + 2 * u.toNat) (by omega), et (103 + 2 * u.toNat) (by omega), et 130 (by decide), et 131 (by decide), et 132 (by decide)]
      exact ru
    have r3 := ru2.2.2.1
    have r4 := ru2.2.2.2.1
    have rne : τ 130 u ≠ -1 := by have := ru2.1; have := ru2.2.1; omega
    rw [hD.2.1]
    generalize hN : min (B.length : Int) (τ (102 + 2 * u.toNat) 1) = N
    have hNb : 0 ≤ N ∧ N ≤ B.length ∧ N ≤ τ 131 u := by omega
    have cb : ∀ i : Int, 0 ≤ i → i < B.length → 0 ≤ 10 * hAt B i + kAt B i ∧ 10 * hAt B i + kAt B i < 26 := fun i i0 i1 => by
      obtain ⟨y, hy, ky, hyy⟩ := kAt_mem hB.1.1.1.mem i i0 i1
      have y6 := inM6 hT hy
      omega
    have M : ∀ τ5 : Mem, (∀ c, c ≠ 103 + 2 * u.toNat → τ5 c = τ c) → (∀ p : Int, 0 ≤ p → p < N → τ5 (103 + 2 * u.toNat) p = 10 * hAt B p + kAt B p) → (∀ p : Int, ¬ (0 ≤ p ∧ p < N) → τ5 (103 + 2 * u.toNat) p = τ (103 + 2 * u.toNat) p) → CI E y_Mod_lists 400 [vr 115, vi u] τ5 (fun y υ => N = y ∧ II υ) := by
      intro τ5 hF5 h5 h5'
      refine c_Mod_lists (b_Mod_lists_0 (by omega) (s_noTray (by omega) (fun z => absurd hu4 z) (fun _ z => absurd z (by rw [up_cell (by decide), hF5 130 (by omega)]; exact rne)) (fun _ _ => ⟨fun _ => ?_, fun z => absurd rfl z⟩)))
      refine t_laysNow (by omega) hT (by rw [up_cell (by decide), hF5 116 (by omega), et 116 (by decide), e6]) h79 hrd hAe hA (fun υ hF6 hK6 hL => ⟨hu4, ?_⟩)
      obtain ⟨⟨B2, b1, b2, b3, b4, b5, b6⟩, -⟩ := hL
      have eB := b1.one hB
      subst eB
      have g6 : ∀ c, c ≠ 103 + 2 * u.toNat → c ∉ gbC → υ c = τ c := fun c c1 c2 => by
        rw [hF6 c c2, up_cell (by intro e; subst e; exact c2 (by decide)), hF5 c c1]
      have m131 := g6 131 (by omega) (by decide)
      have m132 := g6 132 (by omega) (by decide)
      have t103 : υ (103 + 2 * u.toNat) = τ5 (103 + 2 * u.toNat) := by rw [hF6 _ (by simp [gbC]; omega), up_cell (by omega)]
      have loop : ∀ (m : Nat) (p : Int) (τ7 : Mem) (o2 : Option AV), 0 ≤ p → p + m = N → Fr [132] υ τ7 → (∀ k : Int, 0 ≤ k → k < p → τ7 132 (40 * u + k) = 10 * hAt B2 k + kAt B2 k) → (∀ k : Int, ¬ (40 * u ≤ k ∧ k < 40 * u + p) → τ7 132 k = τ 132 k) → Z E y_Mod_lists 400 51 [some (vr 115), some (vi u), o2, some (vi N), some (vi p)] [] τ7 (qi fun y υ => N = y ∧ II υ) := by
        intro m
        induction m with
        | zero =>
          intro p τ7 o2 p0 hp hF7 h7 h7'
          refine b_Mod_lists_51 ⟨fun _ => ⟨rfl, ?_⟩, fun z => absurd z (by omega)⟩
          have g7 : ∀ c, c ≠ 103 + 2 * u.toNat → c ∉ gbC → c ≠ 132 → τ7 c = τ c := fun c c1 c2 c3 => by rw [hF7.one c3, g6 c c1 c2]
          have t7 : τ7 (103 + 2 * u.toNat) = τ5 (103 + 2 * u.toNat) := by rw [hF7.one (by omega), t103]
          have gt : ∀ c, 102 ≤ c → c ≤ 109 → c ≠ 103 + 2 * u.toNat → τ7 c = τ c := fun c a b c2 => g7 c c2 (by simp [gbC]; omega) (by omega)
          refine hI2.tray (fun c hc => ?_) (fun k hk => ?_) (TrayOK.put hu4 hTr2 ⟨?_, ?_, ?_, ?_, fun q q0 q1 => ?_⟩ (fun c c0 c1 c2 c3 => gt c c0 c1 c3) (fun k _ => by rw [g7 130 (by omega) (by decide) (by decide)]) (fun k _ => by rw [g7 131 (by omega) (by decide) (by decide)]) (fun k hk => h7' k (by omega)))
          · have n1 : c ∉ gbC ∧ c ≠ 103 + 2 * u.toNat ∧ c ≠ 132 := by simp [traC, scrt, gbC] at hc ⊢; omega
            exact g7 c n1.2.1 n1.1 n1.2.2
          · have hk' : k ≠ 0 ∧ k ∉ lbK := by simp [lbK] at hk ⊢; omega
            rw [hF7.one (by decide), hK6 k hk'.2, up_nk hk'.1, hF5 115 (by omega)]
          · rw [g7 130 (by omega) (by decide) (by decide), gt _ (by omega) (by omega) (by omega)]; exact ru2.1
          · rw [gt _ (by omega) (by omega) (by omega)]; exact ru2.2.1
          · rw [g7 131 (by omega) (by decide) (by decide), gt _ (by omega) (by omega) (by omega)]; exact r3
          · rw [gt _ (by omega) (by omega) (by omega)]; exact r4
          · rw [gt (102 + 2 * u.toNat) (by omega) (by omega) (by omega)] at q1
            rw [t7]
            by_cases z : q < N
            · rw [h5 q q0 z, h7 q q0 (by omega)]
            · rw [h5' q (by omega), h7' _ (by omega)]; exact ru2.2.2.2.2 q q0 q1
        | succ m ih =>
          intro p τ7 o2 p0 hp hF7 h7 h7'
          refine b_Mod_lists_51 ⟨fun z => absurd z (by omega), fun _ => ⟨⟨p0, by omega⟩, ?_⟩⟩
          rw [wid (x := 40 * u) (by omega) (by omega), wid (x := 40 * u + p) (by omega) (by omega), wid (x := p + 1) (by omega) (by omega)]
          refine ⟨by omega, ih (p + 1) _ _ (by omega) (by omega) (hF7.up (by simp)) (fun k a b => ?_) (fun k hk => ?_)⟩
          · by_cases z : k = p
            · subst z; rw [up_same, hF7.one (by decide)]; exact b6 k a (by omega)
            · rw [up_nk (by omega)]; exact h7 k a (by omega)
          · rw [up_nk (by omega)]; exact h7' k (by omega)
      have l0 := fun o2 => loop N.toNat 0 υ o2 (by omega) (by omega) Fr.rf (fun k a b => absurd b (by omega)) (fun k _ => by rw [m132])
      rw [m131, b4]
      refine ⟨fun z => ?_, fun z => ?_⟩
      · rw [show τ 131 u = N by omega]; exact l0 _
      · rw [show (B2.length : Int) = N by omega]; exact l0 _
    have loop : ∀ (m : Nat) (p : Int) (τ5 : Mem) (o2 : Option AV), 0 ≤ p → p + m = N → (∀ c, c ≠ 103 + 2 * u.toNat → τ5 c = τ c) → (∀ k : Int, 0 ≤ k → k < p → τ5 (103 + 2 * u.toNat) k = 10 * hAt B k + kAt B k) → (∀ k : Int, ¬ (0 ≤ k ∧ k < p) → τ5 (103 + 2 * u.toNat) k = τ (103 + 2 * u.toNat) k) → Z E y_BC_lists 400 56 [some (vr 0), some (vi u), o2, some (vi N), some (vi p)] [] τ5 (qi fun x τ => CI E y_Mod_lists 400 [vr 115, vi u] τ (fun y υ => x = y ∧ II υ)) := by
      intro m
      induction m with
      | zero =>
        intro p τ5 o2 p0 hp hF5 h5 h5'
        refine b_BC_lists_56 (by omega) ⟨fun _ => ?_, fun z => absurd z (by omega)⟩
        have ep : p = N := by omega
        subst ep
        exact M τ5 hF5 h5 h5'
      | succ m ih =>
        intro p τ5 o2 p0 hp hF5 h5 h5'
        refine b_BC_lists_56 (by omega) ⟨fun z => absurd z (by omega), fun _ => ⟨fun z => absurd z (by omega), fun _ => ⟨hu4, ⟨p0, by omega⟩, ?_⟩⟩⟩
        have t102 : τ5 (102 + 2 * u.toNat) = τ (102 + 2 * u.toNat) := hF5 _ (by omega)
        have c95 : τ5 95 p = 10 * hAt B p + kAt B p := by rw [hF5 95 (by omega)]; exact hD.2.2.2.2 p p0 (by omega)
        rw [c95]
        refine s_Tray_put2 (by omega) hu4 (by rw [t102]; exact ru2.2.1) (by rw [t102]; exact r4.2) (by rw [t102, ← r3]; omega) (cb p p0 (by omega)) ?_
        rw [wid (x := p + 1) (by omega) (by omega)]
        refine ih (p + 1) _ _ (by omega) (by omega) (fun c hc => by rw [up_cell hc, hF5 c hc]) (fun k a b => ?_) (fun k hk => ?_)
        · by_cases z : k = p
          · subst z; rw [up_same]
          · rw [up_nk z]; exact h5 k a (by omega)
        · rw [up_nk (by omega)]; exact h5' k (by omega)
    exact loop N.toNat 0 τ _ (by omega) (by omega) (fun c _ => rfl) (fun k a b => absurd b (by omega)) (fun k _ => rfl)
