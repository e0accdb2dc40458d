/-! plain -/
theorem cut25_1 : ∀ (s : Fin 4) (v : Fin 26), cutF (s.val : Int) (v.val : Int) = (v.val : Int) := by decide +kernel
theorem cut25 {s v : Int} (hs : 0 ≤ s ∧ s ≤ 3) (hv : 0 ≤ v ∧ v < 26) : cutF s v = v := by
  have := cut25_1 ⟨s.toNat, by omega⟩ ⟨v.toNat, by omega⟩
  simp only [show ((s.toNat : Nat) : Int) = s by omega, show ((v.toNat : Nat) : Int) = v by omega] at this
  exact this
theorem plF_b {t : Int → Int} {i p : Int} : 0 ≤ plF t i p ∧ plF t i p < 26 := by unfold plF; omega
theorem s_Tray_put2 {E : EN} {d : Nat} {σ : Mem} {K : Int → Mem → Prop} {t i v : Int} (hd : 1 ≤ d) (ht : 0 ≤ t ∧ t < 4) (hs : 0 ≤ σ (102 + 2 * t.toNat) 0 ∧ σ (102 + 2 * t.toNat) 0 ≤ 3) (hb : σ (102 + 2 * t.toNat) 1 ≤ 40) (hi : 0 ≤ i ∧ i < σ (102 + 2 * t.toNat) 1) (hv : 0 ≤ v ∧ v < 26) (q : K v (up σ (103 + 2 * t.toNat) i v)) : CL E y_Tray_put d [vr (102 + 2 * t.toNat), vi i, vl v] σ K := by
  refine c_Tray_put (b_Tray_put_0 (trN (by omega)) hd ⟨fun z => absurd z (by omega), fun _ => ⟨fun z => absurd z (by omega), fun _ => ⟨fun _ => s_Tray_cut (trN (by omega)) ⟨by omega, ?_⟩, fun z => absurd z (by omega)⟩⟩⟩)
  rw [show 102 + 2 * t.toNat + 1 = 103 + 2 * t.toNat by omega, cut25 hs hv]; exact q
theorem sp39 : SP39 II := by
  intro E σ u key w hI hR hu hk hw
  obtain ⟨T, f, e6, hT, hH, hP, hc2, hS, hM, hf, hTr, hPa⟩ := hI.ex
  have e0 : ∀ c, c ≠ 115 → up σ 115 0 0 c = σ c := fun c hc => up_cell hc
  have M2 : ¬ ((0 ≤ u ∧ u < 4) ∧ (0 ≤ w ∧ w < 4) ∧ u ≠ w) → CI E y_Mod_plain 400 [vr 115, vi u, vi key, vi w] σ (fun y υ => -2 = y ∧ II υ) := by
    intro h0
    refine c_Mod_plain (b_Mod_plain_0 (by omega) (s_within (fun z => ⟨fun y => absurd y (by decide), fun _ => s_within (fun z2 => ⟨fun y => absurd y (by decide), fun _ => ⟨fun hne => absurd (⟨by omega, by omega, hne⟩) h0, fun _ => ⟨rfl, hI.thr⟩⟩⟩) (fun z2 => ⟨fun _ => ⟨rfl, hI.thr⟩, fun y => absurd rfl y⟩)⟩) (fun z => ⟨fun _ => ⟨rfl, hI.thr⟩, fun y => absurd rfl y⟩)))
  have M6 : (0 ≤ u ∧ u < 4) → (0 ≤ w ∧ w < 4) → u ≠ w → (σ 130 u = -1 ∨ σ 130 w = -1) → CI E y_Mod_plain 400 [vr 115, vi u, vi key, vi w] σ (fun y υ => -6 = y ∧ II υ) := by
    intro h1 h2 h3 h4
    refine c_Mod_plain (b_Mod_plain_0 (by omega) (s_within (fun z => ⟨fun y => absurd y (by decide), fun _ => s_within (fun z2 => ⟨fun y => absurd y (by decide), fun _ => ⟨fun _ => ⟨h1, fun _ => ⟨rfl, hI.thr⟩, fun y => ⟨h2, fun y2 => ?_, fun _ => ⟨rfl, hI.thr⟩⟩⟩, fun y => absurd y h3⟩⟩) (fun z2 => by omega)⟩) (fun z => by omega)))
    rw [e0 130 (by decide)] at y y2
    exact absurd h4 (fun q => q.elim y y2)
  refine c_BC_plain (b_BC_plain_0 (by omega) (s_hasTray (fun hu4 => ⟨fun z => absurd z (by decide), fun _ => s_hasTray (fun hw4 => ⟨fun z => absurd z (by decide), fun _ => ⟨fun hne => ⟨hu4, fun hz => ?_, fun hz => ⟨hw4, fun hz2 => ?_, fun hz2 => ?_⟩⟩, fun heq => M2 (fun q => q.2.2 heq)⟩⟩) (fun hw4 => ⟨fun _ => M2 (fun q => hw4 q.2.1), fun z => absurd rfl z⟩)⟩) (fun hu4 => ⟨fun _ => M2 (fun q => hu4 q.1), fun z => absurd rfl z⟩)))
  · rcases hTr.get hu4 with q | q
    · exact M6 hu4 hw4 hne (Or.inl q.1)
    · have := q.2.2.2.1; omega
  · have ru : Tr σ u := by
      rcases hTr.get hu4 with q | q
      · omega
      · exact q
    have rw' : Tr σ w := by
      rcases hTr.get hw4 with q | q
      · omega
      · exact q
    have hTr' : TrayOK (up σ 115 0 0) := hI.thr.2.2.2.2.2.1
    have M0 : ∀ (τ2 : Mem) (K : Int → Mem → Prop), (∀ c, c ∉ ciS → c ≠ 103 + 2 * w.toNat → τ2 c = σ c) → (cdF σ u ≠ 0 → K (cdF σ u) (up τ2 115 0 0)) → (cdF σ u = 0 → CI E y_Mod_isKey (400 - 1) [vr 115, vi key] (up τ2 115 0 0) (fun x4 τ4 => (x4 ≠ 0 → (τ4 131 w ≤ τ4 131 u → Z E y_Mod_plain 400 121 [some (vr 115), some (vi u), some (vi key), some (vi w), some (vi 0), some (vi (τ4 131 w)), some (vi 0)] [] τ4 (qi K)) ∧ (τ4 131 u < τ4 131 w → Z E y_Mod_plain 400 121 [some (vr 115), some (vi u), some (vi key), some (vi w), some (vi 0), some (vi (τ4 131 u)), some (vi 0)] [] τ4 (qi K))) ∧ (x4 = 0 → K (-3) τ4))) → CI E y_Mod_plain 400 [vr 115, vi u, vi key, vi w] τ2 K := by
      intro τ2 K hF2 q1 q0
      have g : ∀ c, c ∉ ciS → c ≠ 103 + 2 * w.toNat → c ≠ 115 → up τ2 115 0 0 c = σ c := fun c a b b2 => by rw [up_cell b2, hF2 c a b]
      have e : cdF (up τ2 115 0 0) u = cdF σ u := cdF_cg (g _ (by decide) (by omega) (by decide)) (g _ (by decide) (by omega) (by decide)) (g _ (by decide) (by omega) (by decide))
      have g130 := g 130 (by decide) (by omega) (by decide)
      refine c_Mod_plain (b_Mod_plain_0 (by omega) (s_within (fun z => ⟨fun y => absurd y (by decide), fun _ => s_within (fun z2 => ⟨fun y => absurd y (by decide), fun _ => ⟨fun _ => ⟨hu4, fun y => absurd y (by rw [g130]; exact ru.ne), fun _ => ⟨hw4, fun _ => ?_, fun y => absurd y (by rw [g130]; exact rw'.ne)⟩⟩, fun y => absurd y hne⟩⟩) (fun z2 => by omega)⟩) (fun z => by omega)))
      have htr : ∀ c, 102 ≤ c → c ≤ 109 → c ≠ 103 + 2 * w.toNat → up τ2 115 0 0 c = σ c := fun c a b c2 => g c (by simp [ciS]; omega) c2 (by omega)
      -- the tray that is made plain stands as it was
      have hru : Tr (up τ2 115 0 0) u := by
        unfold Tr
        rw [htr (102 + 2 * u.toNat) (by omega) (by omega) (by omega), htr (103 + 2 * u.toNat) (by omega) (by omega) (by omega), g130, g 131 (by decide) (by omega) (by decide), g 132 (by decide) (by omega) (by decide)]
        exact ru
      refine c_Mod_noCipher (b_Mod_noCipher_0 (by omega) (s_noTray (by omega) (fun z => absurd hu4 z) (fun _ z => absurd z (by rw [g130]; exact ru.ne)) (fun _ _ => ⟨fun _ => ⟨hu4, ?_⟩, fun z => absurd rfl z⟩)))
      have r4 := hru.2.2.2.1
      have r3 := hru.2.2.1
      refine s_within (fun a => ⟨fun _ => ?_, fun z => absurd z (by decide)⟩) (fun a => ⟨fun z => absurd rfl z, fun _ => ?_⟩)
      · have loop : ∀ (m : Nat) (j : Int) (o2 : Option AV), 0 ≤ j → j + m = up τ2 115 0 0 131 u → (∀ k : Int, 0 ≤ k → k < j → 0 ≤ up τ2 115 0 0 132 (40 * u + k) ∧ up τ2 115 0 0 132 (40 * u + k) ≤ 25) → Z E y_Mod_noCipher (400 - 1) 34 [some (vr 115), some (vi u), o2, some (vi j)] [] (up τ2 115 0 0) (qi fun x3 τ3 => (x3 = 0 → CI E y_Mod_isKey (400 - 1) [vr 115, vi key] τ3 (fun x4 τ4 => (x4 ≠ 0 → (τ4 131 w ≤ τ4 131 u → Z E y_Mod_plain 400 121 [some (vr 115), some (vi u), some (vi key), some (vi w), some (vi x3), some (vi (τ4 131 w)), some (vi 0)] [] τ4 (qi K)) ∧ (τ4 131 u < τ4 131 w → Z E y_Mod_plain 400 121 [some (vr 115), some (vi u), some (vi key), some (vi w), some (vi x3), some (vi (τ4 131 u)), some (vi 0)] [] τ4 (qi K))) ∧ (x4 = 0 → K (-3) τ4))) ∧ (x3 ≠ 0 → K x3 τ3)) := by
          intro m
          induction m with
          | zero =>
            intro j o2 j0 hj hkk
            have hok : okC (up τ2 115 0 0) u (up τ2 115 0 0 131 u) := fun p p0 p1 => hkk p p0 (by omega)
            have e1 : cdF σ u = 0 := by rw [← e]; unfold cdF; rw [if_neg (fun z => z hu4), if_neg (by rw [g130]; exact ru.ne), if_neg (by omega), if_pos hok]
            exact b_Mod_noCipher_34 (by omega) ⟨hu4, fun _ => ⟨fun _ => q0 e1, fun z => absurd rfl z⟩, fun z => absurd z (by omega)⟩
          | succ m ih =>
            intro j o2 j0 hj hkk
            refine b_Mod_noCipher_34 (by omega) ⟨hu4, fun z => absurd z (by omega), fun _ => ?_⟩
            rw [wid (x := 40 * u) (by omega) (by omega), wid (x := 40 * u + j) (by omega) (by omega), wid (x := j + 1) (by omega) (by omega)]
            refine ⟨by omega, s_within (fun b => ⟨fun _ => ih (j + 1) _ (by omega) (by omega) (fun k k0 k1 => ?_), fun z => absurd z (by decide)⟩) (fun b => ⟨fun z => absurd rfl z, fun _ => ⟨fun z => absurd z (by decide), fun _ => ?_⟩⟩)⟩
            · by_cases wq : k = j
              · subst wq; exact b
              · exact hkk k k0 (by omega)
            · have hno : ¬ okC (up τ2 115 0 0) u (up τ2 115 0 0 131 u) := fun q => b (q j j0 (by omega))
              have e1 : cdF σ u = -3 := by rw [← e]; unfold cdF; rw [if_neg (fun z => z hu4), if_neg (by rw [g130]; exact ru.ne), if_neg (by omega), if_neg hno]
              have := q1 (by rw [e1]; decide)
              rw [e1] at this; exact this
        exact loop (up τ2 115 0 0 131 u).toNat 0 _ (by omega) (by omega) (fun k a b => absurd b (by omega))
      · have e1 : cdF σ u = -4 := by rw [← e]; unfold cdF; rw [if_neg (fun z => z hu4), if_neg (by rw [g130]; exact ru.ne), if_pos (by omega)]
        refine ⟨fun z => absurd z (by decide), fun _ => ?_⟩
        have := q1 (by rw [e1]; decide)
        rw [e1] at this; exact this
    refine s_cipherCode (by omega) hTr (fun hcne τ hF => ⟨fun z => absurd z hcne, fun _ => ?_⟩) (fun he τ hF hk2 hC => ⟨fun _ => ?_, fun z => absurd rfl z⟩)
    · have hI2 := hI.ci (hF.wk (by decide))
      exact M0 τ _ (fun c a _ => hF c (fun z => a (by simp at z; subst z; decide))) (fun _ => ⟨rfl, hI2.thr⟩) (fun z => absurd z hcne)
    · obtain ⟨-, -, hn1, hok⟩ := cdF_0 hTr he
      have r3 := ru.2.2.1
      have r4 := ru.2.2.2.1
      have s3 := rw'.2.2.1
      have s4 := rw'.2.2.2.1
      refine s_turn (by omega) (fun i τ2 hik hib hF2 hk3 hC2 => ⟨fun _ => ?_, fun z => absurd z (by decide)⟩) (fun hno => ⟨fun z => absurd rfl z, fun _ => ?_⟩)
      · have hFF : Fr ciS σ τ2 := (hF.wk (by decide)).tr (hF2.wk (by decide))
        have hC3 : CTx τ2 (fun p => σ 132 (40 * u + p)) (σ 131 u) := ⟨by rw [hk3 2 (by decide)]; exact hC.1, hC.2.1, fun p p0 p1 => by rw [hF2 97 (by decide)]; exact hC.2.2 p p0 p1⟩
        refine s_Math_min ?_
        rw [hC3.1, hFF (102 + 2 * w.toNat) (by simp [ciS]; omega), ← s3]
        generalize hN : min (σ 131 u) (σ 131 w) = N
        have hNb : 0 ≤ N ∧ N ≤ σ 131 u ∧ N ≤ σ 131 w := by omega
        have M : ∀ τ5 : Mem, (∀ c, c ∉ ciS → c ≠ 103 + 2 * w.toNat → τ5 c = σ c) → (∀ p : Int, 0 ≤ p → p < N → τ5 (103 + 2 * w.toNat) p = plF (fun p => σ 132 (40 * u + p)) i p) → (∀ p : Int, ¬ (0 ≤ p ∧ p < N) → τ5 (103 + 2 * w.toNat) p = σ (103 + 2 * w.toNat) p) → CI E y_Mod_plain 400 [vr 115, vi u, vi key, vi w] τ5 (fun y υ => N = y ∧ II υ) := by
          intro τ5 hF5 h5 h5'
          refine M0 τ5 _ hF5 (fun z => absurd he z) (fun _ => t_isKey (by omega) hk (fun j τ6 hjk hjb hF6 hK6 hS6 => ⟨fun _ => ?_, fun z => absurd z (by decide)⟩) (fun hno => absurd hno (fun z => isKy_n hik z)))
          have ej : j = i := isKy_u hjk hik
          subst ej
          have g6 : ∀ c, c ∉ ciS → c ≠ 103 + 2 * w.toNat → c ≠ 115 → c ≠ 128 → τ6 c = σ c := fun c a b b2 b3 => by rw [hF6 c (by simp [b2, b3]), up_cell b2, hF5 c a b]
          have m131 := g6 131 (by decide) (by omega) (by decide) (by decide)
          have m132 := g6 132 (by decide) (by omega) (by decide) (by decide)
          have t103 : τ6 (103 + 2 * w.toNat) = τ5 (103 + 2 * w.toNat) := by rw [hF6 _ (by simp; omega), up_cell (by omega)]
          have loop : ∀ (m : Nat) (p : Int) (τ7 : Mem) (o2 o4 : Option AV), 0 ≤ p → p + m = N → Fr [132] τ6 τ7 → (∀ k : Int, 0 ≤ k → k < p → τ7 132 (40 * w + k) = plF (fun p => σ 132 (40 * u + p)) j k) → (∀ k : Int, ¬ (40 * w ≤ k ∧ k < 40 * w + p) → τ7 132 k = σ 132 k) → Z E y_Mod_plain 400 121 [some (vr 115), some (vi u), o2, some (vi w), o4, some (vi N), some (vi p)] [] τ7 (qi fun y υ => N = y ∧ II υ) := by
            intro m
            induction m with
            | zero =>
              intro p τ7 o2 o4 p0 hp hF7 h7 h7'
              refine b_Mod_plain_121 (a2 := 0) (by omega) ⟨fun _ => ⟨rfl, ?_⟩, fun z => absurd z (by omega)⟩
              have g7 : ∀ c, c ∉ ciS → c ≠ 103 + 2 * w.toNat → c ≠ 115 → c ≠ 128 → c ≠ 132 → τ7 c = σ c := fun c a b b2 b3 b4 => by rw [hF7.one b4, g6 c a b b2 b3]
              have t7 : τ7 (103 + 2 * w.toNat) = τ5 (103 + 2 * w.toNat) := by rw [hF7.one (by omega), t103]
              have gt : ∀ c, 102 ≤ c → c ≤ 109 → c ≠ 103 + 2 * w.toNat → τ7 c = σ c := fun c a b c2 => g7 c (by simp [ciS]; omega) c2 (by omega) (by omega) (by omega)
              refine hI.tray (fun c hc => ?_) (fun k hk => ?_) (TrayOK.put hw4 hTr ⟨?_, ?_, ?_, ?_, fun q q0 q1 => ?_⟩ (fun c c0 c1 c2 c3 => gt c c0 c1 c3) (fun k _ => by rw [g7 130 (by decide) (by omega) (by decide) (by decide) (by decide)]) (fun k _ => by rw [g7 131 (by decide) (by omega) (by decide) (by decide) (by decide)]) (fun k hk => h7' k (by omega)))
              · have n1 : c ∉ ciS ∧ c ≠ 103 + 2 * w.toNat ∧ c ≠ 115 ∧ c ≠ 128 ∧ c ≠ 132 := by simp [traC, scrt, ciS] at hc ⊢; omega
                exact g7 c n1.1 n1.2.1 n1.2.2.1 n1.2.2.2.1 n1.2.2.2.2
              · have hk' : k ≠ 0 ∧ k ∉ [39] := by simp at hk ⊢; omega
                rw [hF7.one (by decide), hK6 k hk'.2, up_nk hk'.1, hF5 115 (by decide) (by omega)]
              · rw [g7 130 (by decide) (by omega) (by decide) (by decide) (by decide), gt _ (by omega) (by omega) (by omega)]; exact rw'.1
              · rw [gt _ (by omega) (by omega) (by omega)]; exact rw'.2.1
              · rw [g7 131 (by decide) (by omega) (by decide) (by decide) (by decide), gt _ (by omega) (by omega) (by omega)]; exact s3
              · rw [gt _ (by omega) (by omega) (by omega)]; exact s4
              · rw [gt (102 + 2 * w.toNat) (by omega) (by omega) (by omega)] at q1
                rw [t7]
                by_cases z : q < N
                · rw [h5 q q0 z, h7 q q0 (by omega)]
                · rw [h5' q (by omega), h7' _ (by omega)]; exact rw'.2.2.2.2 q q0 q1
            | succ m ih =>
              intro p τ7 o2 o4 p0 hp hF7 h7 h7'
              refine b_Mod_plain_121 (a2 := 0) (by omega) ⟨fun z => absurd z (by omega), fun _ => ?_⟩
              have hS7 : MSh τ7 j := ⟨by rw [hF7.one (by decide)]; exact hS6.1, fun k a b => by rw [hF7.one (by decide)]; exact hS6.2 k a b⟩
              have hne' : ∀ k : Int, 0 ≤ k → k < σ 131 u → τ7 132 (40 * u + k) = σ 132 (40 * u + k) := fun k a b => h7' _ (by omega)
              refine t_plainAt hjb hu4 hS7 (by omega) (by rw [hne' p p0 (by omega)]; exact hok p p0 (by omega)) ?_
              have ep : plF (fun p => τ7 132 (40 * u + p)) j p = plF (fun p => σ 132 (40 * u + p)) j p := by unfold plF; simp only; rw [hne' p p0 (by omega)]
              rw [ep, wid (x := 40 * w) (by omega) (by omega), wid (x := 40 * w + p) (by omega) (by omega), wid (x := p + 1) (by omega) (by omega)]
              refine ⟨by omega, ih (p + 1) _ _ _ (by omega) (by omega) (hF7.up (by simp)) (fun k a b => ?_) (fun k hk => ?_)⟩
              · by_cases z : k = p
                · subst z; rw [up_same]
                · rw [up_nk (by omega)]; exact h7 k a (by omega)
              · rw [up_nk (by omega)]; exact h7' k (by omega)
          have l0 := fun o2 o4 => loop N.toNat 0 τ6 o2 o4 (by omega) (by omega) Fr.rf (fun k a b => absurd b (by omega)) (fun k _ => by rw [m132])
          rw [m131]
          refine ⟨fun z => ?_, fun z => ?_⟩
          · rw [show σ 131 w = N by omega]; exact l0 _ _
          · rw [show σ 131 u = N by omega]; exact l0 _ _
        have loop : ∀ (m : Nat) (p : Int) (τ5 : Mem) (o1 o2 o4 : Option AV), 0 ≤ p → p + m = N → (∀ c, c ≠ 103 + 2 * w.toNat → τ5 c = τ2 c) → (∀ k : Int, 0 ≤ k → k < p → τ5 (103 + 2 * w.toNat) k = plF (fun p => σ 132 (40 * u + p)) i k) → (∀ k : Int, ¬ (0 ≤ k ∧ k < p) → τ5 (103 + 2 * w.toNat) k = σ (103 + 2 * w.toNat) k) → Z E y_BC_plain 400 102 [some (vr 0), o1, o2, some (vi w), o4, some (vi N), some (vi p)] [] τ5 (qi fun x τ => CI E y_Mod_plain 400 [vr 115, vi u, vi key, vi w] τ (fun y υ => x = y ∧ II υ)) := by
          intro m
          induction m with
          | zero =>
            intro p τ5 o1 o2 o4 p0 hp hF5 h5 h5'
            refine b_BC_plain_102 (a1 := 0) (a2 := 0) (by omega) ⟨fun _ => ?_, fun z => absurd z (by omega)⟩
            have ep : p = N := by omega
            subst ep
            exact M τ5 (fun c a b => by rw [hF5 c b, hFF c a]) h5 h5'
          | succ m ih =>
            intro p τ5 o1 o2 o4 p0 hp hF5 h5 h5'
            refine b_BC_plain_102 (a1 := 0) (a2 := 0) (by omega) ⟨fun z => absurd z (by omega), fun _ => ⟨hw4, ?_⟩⟩
            have hC5 : CSh τ5 i := ⟨by rw [hF5 96 (by omega)]; exact hC2.1, fun j a b => by rw [hF5 99 (by omega)]; exact hC2.2 j a b⟩
            have hT5 : CTx τ5 (fun p => σ 132 (40 * u + p)) (σ 131 u) := ⟨by rw [hF5 96 (by omega)]; exact hC3.1, hC3.2.1, fun p a b => by rw [hF5 97 (by omega)]; exact hC3.2.2 p a b⟩
            have t102 : τ5 (102 + 2 * w.toNat) = σ (102 + 2 * w.toNat) := by rw [hF5 _ (by omega), hFF _ (by simp [ciS]; omega)]
            refine s_plainAt (by omega) hib hC5 hT5 (by omega) (s_Tray_put2 (by omega) hw4 (by rw [t102]; exact rw'.2.1) (by rw [t102]; exact s4.2) (by rw [t102, ← s3]; omega) plF_b ?_)
            rw [wid (x := p + 1) (by omega) (by omega)]
            refine ih (p + 1) _ _ _ _ (by omega) (by omega) (fun c hc => by rw [up_cell hc, hF5 c hc]) (fun k a b => ?_) (fun k hk => ?_)
            · by_cases z : k = p
              · subst z; rw [up_same]
              · rw [up_nk z]; exact h5 k a (by omega)
            · rw [up_nk (by omega)]; exact h5' k (by omega)
        exact loop N.toNat 0 τ2 _ _ _ (by omega) (by omega) (fun c _ => rfl) (fun k a b => absurd b (by omega)) (fun k _ => by rw [hFF _ (by simp [ciS]; omega)])
      · have hI2 := hI.ci (hF.wk (by decide))
        exact M0 τ _ (fun c a _ => hF c (fun z => a (by simp at z; rcases z with rfl | rfl <;> decide))) (fun z => absurd he z) (fun _ => t_isKey (by omega) hk (fun j τ6 hjk _ _ _ _ => absurd hno (fun z => isKy_n hjk z)) (fun _ τ6 hF6 hK6 => ⟨fun z => absurd rfl z, fun _ => ⟨rfl, hI2.thr.km hF6 hK6⟩⟩))
  · rcases hTr.get hw4 with q | q
    · exact M6 hu4 hw4 hne (Or.inr q.1)
    · have := q.2.2.2.1; omega
