/-! perform, mornings -/
theorem dpF_n {T f : Int → Int} {R : RL} {v : Int} (h : (dpF T f R v).1 ≠ 0) : (dpF T f R v).2.1 = f := by
  unfold dpF at h ⊢
  split
  · rename_i z1; rw [if_pos z1] at h; exact absurd rfl h
  · rename_i z1
    split
    · rename_i z2; rw [if_neg z1, if_pos z2] at h; exact absurd rfl h
    · rename_i z2
      split
      · rename_i z3; rw [if_neg z1, if_neg z2, if_pos z3] at h; exact absurd rfl h
      · rfl
/-- nothing was done: nothing has changed -/
theorem doS_0 {T f num : Int → Int} {n : Nat} (h : (if (doS T f num n).1 = 0 then (n : Int) else stpG (fun j => (doS T f num j).1) n) ≤ 0) : (doS T f num n).2.1 = f := by
  by_cases e : (doS T f num n).1 = 0
  · rw [if_pos e] at h
    rw [show n = 0 by omega]; rfl
  · rw [if_neg e] at h
    obtain ⟨a, b, c, c2⟩ := stpG_ge (w := fun j => (doS T f num j).1) rfl doS_w (k := 0) rfl n e
    have z : stpG (fun j => (doS T f num j).1) n = 0 := by omega
    rw [z] at c2
    have c2 : (doS T f num 1).1 ≠ 0 := c2
    have st := doS_st c2 n (by
      rcases Nat.eq_zero_or_pos n with y | y
      · rw [y] at e; exact absurd rfl e
      · exact y)
    rw [st]
    exact dpF_n c2
theorem sp15 : SP15 II := by
  intro E σ t hI hR ht
  obtain ⟨T, f, e6, hT, hH, hP, hc2, hS, hM, hf, hTr, hPa⟩ := hI.ex
  have hTr' : TrayOK (up σ 115 0 0) := hI.thr.2.2.2.2.2.1
  have e0 : ∀ c, c ≠ 115 → up σ 115 0 0 c = σ c := fun c hc => up_cell hc
  have n10 := hPa.2.1
  have e62 : σ 116 2 = T 2 := by rw [e6]
  refine c_BC_perform (b_BC_perform_0 (by omega) (s_trayCode (by omega) hTr (fun h => ⟨fun z => absurd z (by decide), fun _ => ?_⟩) (fun h hm => ⟨fun z => absurd z (by decide), fun _ => ?_⟩) (fun h hm => ⟨fun _ => ?_, fun z => absurd rfl z⟩)))
  · exact c_Mod_perform (b_Mod_perform_0 (by omega) (s_noTr (by omega) hTr' (fun _ => ⟨fun z => absurd z (by decide), fun _ => ⟨rfl, hI.thr⟩⟩) (fun z => absurd z h) (fun z => absurd z h)))
  · exact c_Mod_perform (b_Mod_perform_0 (by omega) (s_noTr (by omega) hTr' (fun z => absurd h z) (fun _ _ => ⟨fun z => absurd z (by decide), fun _ => ⟨rfl, hI.thr⟩⟩) (fun _ z => absurd hm (by rw [← e0 130 (by decide)]; exact z.ne))))
  · have b := hm.2.2.2.1
    refine s_Stg_become stg51 stg50 (by decide) (fun τ0 hF0 hv0 => ⟨h, ?_⟩)
    have u : ∀ c, c ≠ 51 → τ0 c = σ c := fun c hc => hF0.one hc
    refine s_Doer_doAll (n := σ (102 + 2 * t.toNat) 1) (by omega) stg51 hT (fun i => by rw [u _ (by omega)]; exact i64_tray hR (by omega) i) (hP.d91 hF0 (fun c hc => by simp; omega)) (by rw [u 2 (by decide)]; exact hc2) (hS.fr hv0 (fun _ _ _ => rfl)) h (by rw [u _ (by omega)]; exact b) (by rw [u _ (by omega)]) (fun τ hF hS1 _ _ => ?_)
    rw [u _ (by omega), hm.dg T f (by omega)] at hS1
    rw [u _ (by omega), hm.dg T f (by omega), hm.dsg T f (by omega)]
    have hFD : Fr rowJ σ τ := (hF0.wk (by decide)).tr hF
    have ed : (if (doS T f (fun i => σ 132 (40 * t + i)) (σ (102 + 2 * t.toNat) 1).toNat).1 = 0 then ((σ (102 + 2 * t.toNat) 1).toNat : Int) else stpG (fun j => (doS T f (fun i => σ 132 (40 * t + i)) j).1) (σ (102 + 2 * t.toNat) 1).toNat) = (if (doS T f (fun i => σ 132 (40 * t + i)) (σ (102 + 2 * t.toNat) 1).toNat).1 = 0 then σ (102 + 2 * t.toNat) 1 else stpG (fun j => (doS T f (fun i => σ 132 (40 * t + i)) j).1) (σ (102 + 2 * t.toNat) 1).toNat) := by
      rw [show (((σ (102 + 2 * t.toNat) 1).toNat : Nat) : Int) = σ (102 + 2 * t.toNat) 1 by omega]
    have z0 := doS_0 (T := T) (f := f) (num := fun i => σ 132 (40 * t + i)) (n := (σ (102 + 2 * t.toNat) 1).toNat)
    rw [ed] at z0
    generalize hN : (if (doS T f (fun i => σ 132 (40 * t + i)) (σ (102 + 2 * t.toNat) 1).toNat).1 = 0 then σ (102 + 2 * t.toNat) 1 else stpG (fun j => (doS T f (fun i => σ 132 (40 * t + i)) j).1) (σ (102 + 2 * t.toNat) 1).toNat) = N at z0 ⊢
    generalize hL : doS T f (fun i => σ 132 (40 * t + i)) (σ (102 + 2 * t.toNat) 1).toNat = L at hS1 z0
    have M : ∀ (τa : Mem), (∀ c, c ∉ rowJ → c ∉ 50 :: pasC → τa c = σ c) → ∀ K : Int → Mem → Prop, (∀ τ2 : Mem, Fr [115, 116, 120, 121, 122, 123, 124, 125, 126] τa τ2 → keep [0, 22, 23, 25] τa τ2 → sb5 τa τ2 → MS τ2 T L.2.1 → (∀ k : Int, 0 ≤ k → k < 5 → τ2 126 k = f k) → (N ≤ 0 → K N τ2) ∧ (0 < N → CV E y_Mod_notes (400 - 1) [vr 115] τ2 (fun τ4 => K N τ4))) → CI E y_Mod_perform 400 [vr 115, vi t] τa K := by
      intro τa hFa K q
      have g : ∀ c, c ∉ rowJ → c ∉ 50 :: pasC → c ≠ 115 → up τa 115 0 0 c = σ c := fun c a1 a2 a3 => by rw [up_cell a3, hFa c a1 a2]
      refine c_Mod_perform (b_Mod_perform_0 (by omega) (s_noTray (by omega) (fun z => absurd h z) (fun _ z => absurd z (by rw [g 130 (by decide) (by decide) (by decide)]; exact hm.ne)) (fun _ _ => ⟨fun _ => ?_, fun z => absurd rfl z⟩)))
      refine s_keeps (fun τ1 hF1 hw1 => ?_)
      have g1 : ∀ c, c ∉ rowJ → c ∉ 50 :: pasC → c ≠ 115 → c ≠ 126 → τ1 c = σ c := fun c a1 a2 a3 a4 => by rw [hF1.one a4, g c a1 a2 a3]
      have m6 : τ1 116 = σ 116 := g1 116 (by decide) (by decide) (by decide) (by decide)
      refine t_tells (n := σ (102 + 2 * t.toNat) 1) (by omega) hT (fun i => by rw [g1 132 (by decide) (by decide) (by decide) (by decide)]; exact i64_nums hR i) (hM.fr m6) hf h (by rw [g1 131 (by decide) (by decide) (by decide) (by decide)]; exact hm.2.2.1.symm) b (fun τ2 hF2 hK2 h52 hS2 _ => ?_)
      rw [g1 132 (by decide) (by decide) (by decide) (by decide), hL] at hS2
      rw [g1 132 (by decide) (by decide) (by decide) (by decide), hN]
      refine q τ2 (((Fr.rf.up (by decide)).tr (hF1.wk (by decide))).tr (hF2.wk (by decide))) (fun k hk => ?_) (fun k hk => ?_) hS2 (fun k k0 k1 => ?_)
      · have hk' : k ≠ 0 ∧ k ∉ [22, 23, 25] := by simp at hk ⊢; omega
        rw [hK2 k hk'.2, hF1.one (by decide), up_nk hk'.1]
      · rw [h52 k hk, hF1.one (by decide), up_nc (by decide)]
      · rw [hF2 126 (by decide), hw1 k k0 k1, g 116 (by decide) (by decide) (by decide)]; exact hM.2 k k0 k1
    refine ⟨fun hle => ?_, fun hgt => ?_⟩
    · refine M τ (fun c a _ => hFD c a) _ (fun τ2 hF2 hK2 h52 hS2 hw2 => ⟨fun _ => ⟨rfl, ?_⟩, fun z => absurd z (by omega)⟩)
      rw [z0 hle] at hS2
      have m63 : τ2 116 = σ 116 := by
        funext k
        by_cases e : 79 ≤ k ∧ k < 84
        · have a1 := hS2.2 (k - 79) (by omega) (by omega)
          have a2 := hM.2 (k - 79) (by omega) (by omega)
          rw [show 79 + (k - 79) = k by omega] at a1 a2
          rw [a1, a2]
        · rw [h52 k (by omega), hFD 116 (by decide)]
      refine hI.m2 (fun c hc => ?_) (fun k hk => ?_)
      · by_cases e : c = 116
        · subst e; exact m63
        · have n1 : c ∉ rowJ ∧ c ∉ [115, 116, 120, 121, 122, 123, 124, 125, 126] := by simp [scrt, rowJ, rowD, rowS] at hc ⊢; omega
          rw [hF2 c n1.2, hFD c n1.1]
      · have hk' : k ∉ [0, 22, 23, 25] := by simp at hk ⊢; omega
        rw [hK2 k hk', hFD 115 (by decide)]
    · refine s_Past_keep (by omega) (hPa.c.fr (fun c c0 c1 c2 => hFD c (by simp [rowJ, rowD, rowS]; omega))) (H := σ 116 2) (f := f) (by rw [e6]; exact hS.fr (fun k _ _ => by rw [hFD 50 (by decide)]) (fun _ _ _ => rfl)) (fun τ1 hF1 hC1 => ?_)
      rw [e62] at hC1
      refine s_Stg_become stg50 stg51 (by decide) (fun τ2 hF2 hv2 => ?_)
      have hS2 : ST τ2 50 (T 2) L.2.1 := hS1.fr (fun k k0 k1 => by rw [hv2 k k0 k1, hF1 51 (by decide)]) (fun _ _ _ => rfl)
      have g2 : ∀ c, c ∉ rowJ → c ∉ 50 :: pasC → τ2 c = σ c := fun c a1 a2 => by
        rw [hF2.one (fun z => a2 (by rw [z]; exact List.mem_cons_self)), hF1 c (fun z => a2 (List.mem_cons_of_mem _ z)), hFD c a1]
      refine M τ2 g2 _ (fun τ3 hF3 hK3 h53 hS3 hw3 => ⟨fun z => absurd z (by omega), fun _ => ?_⟩)
      have m6 : τ2 116 = σ 116 := g2 116 (by decide) (by decide)
      refine s_notes n10 (hPa.m.fr n10.2 (fun k k0 k1 => by rw [h53 k (by omega), m6])) (f := f) hw3 (fun τ6 hF6 ho hPM => ⟨rfl, hI.deed2 (T := T) (f := L.2.1) e6 (fun c hc => ?_) (fun k hk => ?_) (fun k hk => ?_) (hC1.fr (fun c c0 c1 c2 => ?_)) hPM (hS2.fr (fun k _ _ => ?_) (fun _ _ _ => rfl)) ⟨fun k k0 hk => ?_, fun k k0 k1 => ?_⟩⟩)
      · have n1 : c ∉ rowJ ∧ c ∉ 50 :: pasC ∧ c ≠ 116 ∧ c ∉ [115, 116, 120, 121, 122, 123, 124, 125, 126] := by simp [dee, scrt, pasC, rowJ, rowD, rowS] at hc ⊢; omega
        rw [hF6.one n1.2.2.1, hF3 c n1.2.2.2, g2 c n1.1 n1.2.1]
      · have hk' : k ∉ [0, 22, 23, 25] := by simp at hk ⊢; omega
        rw [hF6.one (by decide), hK3 k hk', g2 115 (by decide) (by decide)]
      · rw [ho k (by omega), h53 k (by omega), m6]
      · rw [hF6.one (by omega), hF3 c (by simp; omega), hF2.one (by omega)]
      · rw [hF6.one (by decide), hF3 50 (by decide)]
      · rw [ho k (by omega), h53 k (by omega), m6, e6]
      · rw [ho _ (by omega)]; exact hS3.2 k k0 k1
/-- a deed by a draw -/
def f4 (f : Int → Int) (x : Int) : Int → Int := fun k => if k = 4 then x else f k
noncomputable def drF (T f : Int → Int) : Int → Int :=
  if Int.tmod (ius (dx (f 4)) 16) 3 = 0 then morF T (f4 f (dx (f 4))) (ruleF T (f 0) (awo T (f 2)) (T 4).toNat)
  else xoF (f4 f (dx (dx (f 4)))) (Int.tmod (ius (dx (dx (f 4))) 16) (T 2))
noncomputable def drS (T f : Int → Int) : Nat → Int → Int
  | 0 => f
  | n + 1 => drF T (drS T f n)
theorem tmodH {x H : Int} (hH : 1 ≤ H ∧ H ≤ 3) : 0 ≤ Int.tmod (ius x 16) H ∧ Int.tmod (ius x 16) H < H := by
  have h := ius16 x
  rw [Int.tmod_eq_emod_of_nonneg h.1]
  exact ⟨Int.emod_nonneg _ (by omega), Int.emod_lt_of_pos _ (by omega)⟩
theorem fB4 {f : Int → Int} {x : Int} (h : fB f) : fB (f4 f x) := h
theorem drF_b {T : Int → Int} (hT : MT T) (h1 : 1 ≤ T 2) {f : Int → Int} (h : fB f) : fB (drF T f) := by
  have t2 := hT.2.1
  have t4 := hT.2.2.2.1
  unfold drF
  split
  · exact morF_b (in63.of hT (ruleF_RV hT _ (by omega))) (fB4 h)
  · have := tmodH (x := dx (dx (f 4))) (H := T 2) (by omega)
    exact ⟨h.1, h.2.1, xo_lt h.2.2 (by omega)⟩
theorem drS_b {T : Int → Int} (hT : MT T) (h1 : 1 ≤ T 2) {f : Int → Int} (h : fB f) : ∀ n, fB (drS T f n)
  | 0 => h
  | n + 1 => drF_b hT h1 (drS_b hT h1 h n)
section
variable {E : EN} {d : Nat} {σ : Mem} {T f : Int → Int}
theorem s_Stg_draw {K : Int → Mem → Prop} {s : Nat} (hs : isStg s) (q : K (ius (dx (σ s 4)) 16) (up σ s 4 (dx (σ s 4)))) : CI E y_Stg_draw d [vr s] σ K :=
  c_Stg_draw (b_Stg_draw_0 hs q)
theorem ST.f4 {σ : Mem} {s : Nat} {H : Int} {f : Int → Int} (h : ST σ s H f) (x : Int) : ST (up σ s 4 x) s H (Jvm.Pilot.@@N@@.f4 f x) := by
  obtain ⟨a0, a1, a2, a3, a4, a5⟩ := h
  exact ⟨by rw [up_nk (by decide)]; exact a0, by rw [up_nk (by decide)]; exact a1, by rw [up_nk (by decide)]; exact a2, by rw [up_nk (by decide)]; exact a3, by rw [up_same]; rfl, a5⟩
theorem s_drawnDeed {K : Mem → Prop} (hd : 6 ≤ d) (hT : MT T) (h1 : 1 ≤ T 2) (hP : HP σ T) (hc2 : 0 ≤ σ 2 2 ∧ σ 2 2 ≤ 4) (hS : ST σ 50 (T 2) f) (q : ∀ τ : Mem, Fr (50 :: rowS 73) σ τ → ST τ 50 (T 2) (drF T f) → K τ) : CV E y_Doer_drawnDeed d [vr 91, vr 50] σ K := by
  have t2 := hT.2.1
  have t4 := hT.2.2.2.1
  have x4 : σ 50 4 = f 4 := hS.2.2.2.2.1
  refine c_Doer_drawnDeed (b_Doer_drawnDeed_0 stg50 (by omega) (s_Stg_draw stg50 ?_))
  rw [x4]
  generalize hM : up σ 50 4 (dx (f 4)) = M
  have mF : Fr (50 :: rowS 73) σ M := by rw [← hM]; exact Fr.rf.up (by simp)
  have m2 : M 2 = σ 2 := mF 2 (by decide)
  have hS1 : ST M 50 (T 2) (f4 f (dx (f 4))) := by rw [← hM]; exact hS.f4 _
  have hP1 : HP M T := hP.dee stg50 mF
  have p1 : σ 2 1 = T 2 := hP.2.1
  refine ⟨fun hne => ?_, fun he => ?_⟩
  · rw [m2, p1]
    refine ⟨fun z => absurd z (by omega), fun _ => s_Stg_draw stg50 ?_⟩
    have y4 : M 50 4 = dx (f 4) := by rw [← hM, up_same]
    rw [y4]
    generalize hM2 : up M 50 4 (dx (dx (f 4))) = M2
    have nF : Fr (50 :: rowS 73) σ M2 := by rw [← hM2]; exact mF.up (by simp)
    have n2 : M2 2 = σ 2 := nF 2 (by decide)
    have hS2 : ST M2 50 (T 2) (f4 f (dx (dx (f 4)))) := by
      have := hS1.f4 (dx (dx (f 4)))
      rw [hM2] at this
      exact this.fr (fun _ _ _ => rfl) (fun k k0 k1 => by unfold f4; split <;> rfl)
    rw [n2, p1]
    have tb := tmodH (x := dx (dx (f 4))) (H := T 2) (by omega)
    refine ⟨by omega, c_Doer_deed (b_Doer_deed_0 stg50 (by omega) ?_)⟩
    rw [wid (x := 300 + Int.tmod (ius (dx (dx (f 4))) 16) (T 2)) (by omega) (by omega), lcm_ne, lcm_ne, lcm_lt, lcm_ge, lcm_eq, lcm_eq, n2, p1, wid (x := 300 + T 2) (by omega) (by omega), lcm_ge, lcm_lt]
    refine ⟨fun _ => ⟨fun _ => ⟨fun z => absurd z (by omega), fun _ => ⟨fun z => absurd z (by omega), fun _ => ?_⟩⟩, fun z => absurd z (by omega)⟩, fun z => absurd z (by omega)⟩
    rw [wid64 (by omega) (by omega), wid (x := 300 + Int.tmod (ius (dx (dx (f 4))) 16) (T 2) - 300) (by omega) (by omega), show 300 + Int.tmod (ius (dx (dx (f 4))) 16) (T 2) - 300 = Int.tmod (ius (dx (dx (f 4))) 16) (T 2) by omega]
    refine q _ (nF.up (by simp)) ?_
    have ed : drF T f = xoF (f4 f (dx (dx (f 4)))) (Int.tmod (ius (dx (dx (f 4))) 16) (T 2)) := by unfold drF; rw [if_neg hne]
    rw [ed]
    obtain ⟨s0, s1, s2, s3, s4, sb⟩ := hS2
    rw [s2, xo_aw t2 sb.2.2 (by omega)]
    exact ⟨by rw [up_nk (by decide)]; exact s0, by rw [up_nk (by decide)]; exact s1, by rw [up_same]; rfl, by rw [up_nk (by decide)]; exact s3, by rw [up_nk (by decide)]; exact s4, sb.1, sb.2.1, xo_lt sb.2.2 (by omega)⟩
  · refine c_Doer_deed (b_Doer_deed_0 stg50 (by omega) ?_)
    rw [lcm_ne, lcm_ne, lcm_eq, lcm_eq]
    refine ⟨fun _ => ⟨fun z => absurd rfl z, fun _ => ?_⟩, fun z => absurd z (by decide)⟩
    refine s_Room_allLetters (Or.inl rfl) (by rw [m2, hP.2.2.1]; omega) ?_
    refine u_rule (by omega) hT hP1 (by rw [m2]; exact hc2) hS1 (fun τ hF hC => ?_)
    refine u_readRow (by omega) stg50 hT (hP1.row hF) (hS1.fr (fun k _ _ => by rw [hF 50 (by decide)]) (fun _ _ _ => rfl)) (ruleF_RV hT _ (by omega)) hC (fun τ2 hF2 _ hS2 => ?_)
    have ed : drF T f = morF T (f4 f (dx (f 4))) (ruleF T (f 0) (awo T (f 2)) (T 4).toNat) := by unfold drF; rw [if_pos he]
    refine q τ2 ((mF.tr (hF.wk (fun c hc => List.mem_cons_of_mem _ hc))).tr hF2) ?_
    rw [ed]; exact hS2
/-- the reference's drawn deed, from the draw on -/
theorem MS.f4 {σ : Mem} {T f : Int → Int} (h : MS σ T f) (x : Int) : MS (up σ 116 83 x) T (Jvm.Pilot.@@N@@.f4 f x) := by
  obtain ⟨a0, a1, a2, a3, a4⟩ := h.at
  exact MS.of (h.1.up (by omega)) ⟨by rw [up_nk (by decide)]; exact a0, by rw [up_nk (by decide)]; exact a1, by rw [up_nk (by decide)]; exact a2, by rw [up_nk (by decide)]; exact a3, by rw [up_same]; rfl⟩
end
theorem sp16 : SP16 II := by
  intro E σ v n hI hR hv hn
  obtain ⟨T, f, e6, hT, hH, hP, hc2, hS, hM, hf, hTr, hPa⟩ := hI.ex
  have n10 := hPa.2.1
  have t2 := hT.2.1
  have e62 : σ 116 2 = T 2 := by rw [e6]
  have p1 : σ 2 1 = T 2 := hP.2.1
  have e0 : up σ 115 0 0 116 = T := by rw [up_cell (by decide), e6]
  have M3 : ¬ (1 ≤ n ∧ n ≤ 30) → CI E y_Mod_mornings 400 [vr 115, vi v, vi n] σ (fun y υ => -3 = y ∧ II υ) := fun h0 =>
    c_Mod_mornings (b_Mod_mornings_0 (by omega) (s_within (fun z => absurd z h0) (fun z => ⟨fun y => absurd rfl y, fun _ => ⟨rfl, hI.thr⟩⟩)))
  refine c_BC_mornings (b_BC_mornings_0 (by omega) ⟨fun a => M3 (by omega), fun a => ⟨fun b => ⟨fun c => ?_, fun c => ?_⟩, fun b => M3 (by omega)⟩⟩)
  · rw [p1] at c
    refine s_Past_keep (by omega) hPa.c (H := σ 116 2) (f := f) (by rw [e6]; exact hS) (fun τ1 hF1 hC1 => ?_)
    rw [e62] at hC1
    have M : ∀ τ, Fr (50 :: rowS 73) (up τ1 50 4 v) τ → ST τ 50 (T 2) (drS T (f4 f v) n.toNat) → CI E y_Mod_mornings 400 [vr 115, vi v, vi n] τ (fun y υ => drS T (f4 f v) n.toNat 0 = y ∧ II υ) := by
      intro τ hF hS1
      have g : ∀ c, c ∉ rowS 73 → c ∉ 50 :: pasC → τ c = σ c := fun c a1 a2 => by
        rw [hF c (fun z => by
          rcases List.mem_cons.mp z with rfl | z
          · exact a2 List.mem_cons_self
          · exact a1 z), up_cell (fun z => a2 (by rw [z]; exact List.mem_cons_self)), hF1 c (fun z => a2 (List.mem_cons_of_mem _ z))]
      have m6 : up τ 115 0 0 116 = σ 116 := by rw [up_cell (by decide), g 116 (by decide) (by decide)]
      refine c_Mod_mornings (b_Mod_mornings_0 (by omega) (s_within (fun z => ⟨fun _ => ⟨fun _ => ?_, fun z => absurd z (by rw [m6, e62]; omega)⟩, fun y => absurd y (by decide)⟩) (fun z => absurd ⟨a, b⟩ z)))
      refine s_keeps (fun τ2 hF2 hw2 => ?_)
      have m7 : τ2 116 = σ 116 := by rw [hF2.one (by decide), m6]
      have w2 : ∀ k : Int, 0 ≤ k → k < 5 → τ2 126 k = f k := fun k k0 k1 => by rw [hw2 k k0 k1, m6]; exact hM.2 k k0 k1
      have loop : ∀ (m i : Nat) (τ3 : Mem) (o1 : Option AV), (i : Int) + m = n → Fr ruleC τ2 τ3 → keep [22, 23] τ2 τ3 → (∀ k : Int, k < 79 ∨ 83 < k → τ3 116 k = σ 116 k) → MS τ3 T (drS T (f4 f v) i) → Z E y_Mod_mornings 400 46 [some (vr 115), o1, some (vi n), some (vi (i : Int))] [] τ3 (qi fun y υ => drS T (f4 f v) n.toNat 0 = y ∧ II υ) := by
        intro m
        induction m with
        | zero =>
          intro i τ3 o1 hi hF3 hK3 h53 hS3
          have ei : i = n.toNat := by omega
          rw [ei] at hS3
          refine b_Mod_mornings_46 (a1 := 0) (by omega) ⟨fun _ => ?_, fun z => absurd z (by omega)⟩
          refine s_notes n10 (hPa.m.fr n10.2 (fun k k0 k1 => h53 k (by omega))) (f := f) (fun k k0 k1 => by rw [hF3 126 (by decide)]; exact w2 k k0 k1) (fun τ6 hF6 ho hPM => ⟨?_, hI.deed2 (T := T) (f := drS T (f4 f v) n.toNat) e6 (fun c hc => ?_) (fun k hk => ?_) (fun k hk => ?_) (hC1.fr (fun c c0 c1 c2 => ?_)) hPM (hS1.fr (fun k _ _ => ?_) (fun _ _ _ => rfl)) ⟨fun k k0 hk => ?_, fun k k0 k1 => ?_⟩⟩)
          · rw [ho 79 (by omega), hS3.at.1]
          · have n1 : c ∉ rowS 73 ∧ c ∉ 50 :: pasC ∧ c ≠ 116 ∧ c ∉ ruleC ∧ c ≠ 126 ∧ c ≠ 115 := by simp [dee, scrt, pasC, rowS, ruleC] at hc ⊢; omega
            rw [hF6.one n1.2.2.1, hF3 c n1.2.2.2.1, hF2.one n1.2.2.2.2.1, up_cell n1.2.2.2.2.2, g c n1.1 n1.2.1]
          · rw [hF6.one (by decide), hK3 k (k115 hk).2, hF2.one (by decide), up_nk (k115 hk).1, g 115 (by decide) (by decide)]
          · rw [ho k (by omega), h53 k (by omega)]
          · rw [hF6.one (by omega), hF3 c (by simp [ruleC]; omega), hF2.one (by omega), up_cell (by omega), hF c (by simp [rowS]; omega), up_cell (by omega)]
          · rw [hF6.one (by decide), hF3 50 (by decide), hF2.one (by decide), up_nc (by decide)]
          · rw [ho k (by omega), h53 k (by omega), e6]
          · rw [ho _ (by omega)]; exact hS3.2 k k0 k1
        | succ m ih =>
          intro i τ3 o1 hi hF3 hK3 h53 hS3
          have fb := drS_b hT c (fB4 (x := v) hf) i
          have nx := fun τ o => ih (i + 1) τ o (by omega)
          simp only [drS] at nx
          refine b_Mod_mornings_46 (a1 := 0) (by omega) ⟨fun z => absurd z (by omega), fun _ => s_draw ?_⟩
          rw [hS3.at.2.2.2.2]
          generalize hg : drS T (f4 f v) i = fi at hS3 fb nx ⊢
          have hS4 := hS3.f4 (dx (fi 4))
          generalize hQ : up τ3 116 83 (dx (fi 4)) = Q at hS4 ⊢
          have qF : Fr ruleC τ2 Q := by rw [← hQ]; exact hF3.up (by decide)
          have qK : keep [22, 23] τ2 Q := fun k hk => by rw [← hQ, up_nc (by decide)]; exact hK3 k hk
          have q5 : ∀ k : Int, k < 79 ∨ 83 < k → Q 116 k = σ 116 k := fun k hk => by rw [← hQ, up_nk (by omega)]; exact h53 k hk
          rw [wid (x := (i : Int) + 1) (by omega) (by omega)]
          refine ⟨fun hne => s_draw ?_, fun he => ?_⟩
          · have ed : drF T fi = xoF (f4 fi (dx (dx (fi 4)))) (Int.tmod (ius (dx (dx (fi 4))) 16) (T 2)) := by unfold drF; rw [if_neg hne]
            have q4 : Q 116 83 = dx (fi 4) := by rw [← hQ, up_same]
            rw [q4]
            have hS5 := hS4.f4 (dx (dx (fi 4)))
            generalize hQ2 : up Q 116 83 (dx (dx (fi 4))) = Q2 at hS5 ⊢
            have r2 : Q2 116 2 = T 2 := by rw [← hQ2, up_nk (by decide), q5 2 (by omega), e62]
            have r81 : Q 116 81 = fi 2 := hS4.at.2.2.1
            rw [r2, r81]
            refine ⟨by omega, nx _ _ ?_ ?_ ?_ ?_⟩
            · rw [← hQ2]; exact (qF.up (by decide)).up (by decide)
            · intro k hk; rw [up_nc (by decide), ← hQ2, up_nc (by decide)]; exact qK k hk
            · intro k hk; rw [up_nk (by omega), ← hQ2, up_nk (by omega)]; exact q5 k hk
            · rw [ed]
              obtain ⟨a0, a1, a2, a3, a4⟩ := hS5.at
              exact MS.of (hS5.1.up (by omega)) ⟨by rw [up_nk (by decide)]; exact a0, by rw [up_nk (by decide)]; exact a1, by rw [up_same]; rfl, by rw [up_nk (by decide)]; exact a3, by rw [up_nk (by decide)]; exact a4⟩
          · have ed : drF T fi = morF T (f4 fi (dx (fi 4))) (ruleF T (fi 0) (awo T (fi 2)) (T 4).toNat) := by unfold drF; rw [if_pos he]
            refine t_goesRule (by omega) hT hS4 (fB4 fb) (fun τ4 hF4 hK4 h54 hS6 _ => ?_)
            exact nx τ4 _ (qF.tr hF4) (qK.tr hK4) (fun k hk => by rw [h54 k hk, q5 k hk]) (by rw [ed]; exact hS6)
      have hS0 : MS (up τ2 116 83 v) T (f4 f v) := (hM.fr m7).f4 v
      exact loop n.toNat 0 _ _ (by omega) (Fr.rf.up (by decide)) (fun k _ => by rw [up_nc (by decide)]) (fun k hk => by rw [up_nk (by omega), m7]) hS0
    have loop : ∀ (m i : Nat) (τ : Mem) (o1 : Option AV), (i : Int) + m = n → Fr (50 :: rowS 73) (up τ1 50 4 v) τ → ST τ 50 (T 2) (drS T (f4 f v) i) → Z E y_BC_mornings 400 49 [some (vr 0), o1, some (vi n), some (vi (i : Int))] [] τ (qi fun x τ => CI E y_Mod_mornings 400 [vr 115, vi v, vi n] τ (fun y υ => x = y ∧ II υ)) := by
      intro m
      induction m with
      | zero =>
        intro i τ o1 hi hF hS1
        have ei : i = n.toNat := by omega
        rw [ei] at hS1
        refine b_BC_mornings_49 (a1 := 0) (by omega) ⟨fun _ => ?_, fun z => absurd z (by omega)⟩
        rw [hS1.1]; exact M τ hF hS1
      | succ m ih =>
        intro i τ o1 hi hF hS1
        have f2 : τ 2 = σ 2 := by rw [hF 2 (by decide), up_cell (by decide), hF1 2 (by decide)]
        have hP1 : HP τ T := ((hP.d91 hF1 (fun c hc => by simp [pasC]; omega)).d91 (S := [50]) (Fr.rf.up (by simp)) (fun c hc => by simp; omega)).dee stg50 hF
        refine b_BC_mornings_49 (a1 := 0) (by omega) ⟨fun z => absurd z (by omega), fun _ => s_drawnDeed (by omega) hT c hP1 (by rw [f2]; exact hc2) hS1 (fun τ2 hF2 hS2 => ?_)⟩
        rw [wid (x := (i : Int) + 1) (by omega) (by omega)]
        exact ih (i + 1) τ2 _ (by omega) (hF.tr hF2) hS2
    exact loop n.toNat 0 _ _ (by omega) Fr.rf ((hS.fr (fun k _ _ => by rw [hF1 50 (by decide)]) (fun _ _ _ => rfl) : ST τ1 50 (T 2) f).f4 v)
  · rw [p1] at c
    refine c_Mod_mornings (b_Mod_mornings_0 (by omega) (s_within (fun z => ⟨fun _ => ⟨fun y => absurd y (by rw [e0]; omega), fun _ => ⟨rfl, hI.thr⟩⟩, fun y => absurd y (by decide)⟩) (fun z => absurd ⟨a, b⟩ z)))
