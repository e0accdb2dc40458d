/-! row, when, morning -/
theorem II.ex {σ : Mem} (h : II σ) : ∃ T f : Int → Int, σ 116 = T ∧ MT T ∧ HR σ 2 T ∧ HP σ T ∧ (0 ≤ σ 2 2 ∧ σ 2 2 ≤ 4) ∧ ST σ 50 (T 2) f ∧ MS σ T f ∧ fB f ∧ TrayOK σ ∧ PastOK σ :=
  ⟨σ 116, fun k => σ 116 (79 + k), rfl, h.1, h.2.1, h.2.1.hp h.1, (h.2.1.rb h.1).2.1, h.2.2.2.1, ⟨TX.rf, fun _ _ _ => rfl⟩, h.2.2.2.1.b, h.2.2.2.2.2.1, h.2.2.2.2.1⟩
theorem II.m2 {σ τ : Mem} (h : II σ) (hF : Fr scrt σ τ) (hK : keep [0, 22, 23, 25, 35] σ τ) : II τ := h.same hF (fun k hk => hK k (by simp at hk ⊢; omega))
theorem II.row {σ τ : Mem} (h : II σ) (hF : Fr rowD σ τ) : II τ := h.same (hF.wk (by decide)) (fun k _ => by rw [hF 115 (by decide)])
theorem II.deed2 {σ υ : Mem} {n : Int} {T f : Int → Int} {F : Int → Int → Int} (h : II σ) (e6 : σ 116 = T) (hF : Fr dee σ υ) (hK : ∀ k, k ∈ [5, 13, 14, 33] → υ 115 k = σ 115 k) (hB : ∀ k : Int, 1036 ≤ k → υ 116 k = σ 116 k) (hC : PastC υ (T 2) n F) (hM : PastM υ n F) (hS : ST υ 50 (T 2) f) (hMS : MS υ T f) : II υ :=
  h.deed hF hK (by rw [e6]; exact hMS.1) hB (by rw [e6]; exact hC) hM (by rw [e6]; exact hS.fr (fun _ _ _ => rfl) hMS.2)
theorem stpG_cg {w w2 : Nat → Int} : ∀ n, (∀ j, j ≤ n → w2 j = w j) → stpG w2 n = stpG w n
  | 0, _ => rfl
  | n + 1, h => by
    simp only [stpG]
    rw [h n (by omega), h (n + 1) (by omega), stpG_cg n (fun j hj => h j (by omega))]
theorem wst {w : Nat → Int} (hs : ∀ n, w n ≠ 0 → w (n + 1) = w n) {a : Nat} (ha : w a ≠ 0) : ∀ b, a ≤ b → w b ≠ 0
  | 0, h => by rw [show a = 0 by omega] at ha; exact ha
  | b + 1, h => by
    rcases Nat.lt_or_ge b a with q | q
    · rw [show a = b + 1 by omega] at ha; exact ha
    · have := wst hs ha b q
      rw [hs b this]; exact this
theorem stpG_lt {w : Nat → Int} (h0 : w 0 = 0) (hs : ∀ n, w n ≠ 0 → w (n + 1) = w n) : ∀ k, w k ≠ 0 → ∀ n, k ≤ n → stpG w n < k
  | 0, hk, _, _ => absurd h0 hk
  | k + 1, hk, n, hn => by
    by_cases e : w k = 0
    · have := (stpG_at e hk hs n hn).1; omega
    · have := stpG_lt h0 hs k e n (by omega); omega
theorem stpG_ge {w : Nat → Int} (h0 : w 0 = 0) (hs : ∀ n, w n ≠ 0 → w (n + 1) = w n) {k : Nat} (hk : w k = 0) : ∀ n, w n ≠ 0 → (k : Int) ≤ stpG w n ∧ stpG w n < n ∧ w (stpG w n).toNat = 0 ∧ w ((stpG w n).toNat + 1) ≠ 0
  | 0, hn => absurd h0 hn
  | n + 1, hn => by
    by_cases e : w n = 0
    · have a := (stpG_at e hn hs (n + 1) (by omega)).1
      have b : k ≤ n := by
        rcases Nat.lt_or_ge n k with z | z
        · exact absurd hk (wst hs hn k (by omega))
        · exact z
      rw [a]
      refine ⟨by omega, by omega, ?_, ?_⟩
      · rw [show ((n : Int)).toNat = n by omega]; exact e
      · rw [show ((n : Int)).toNat = n by omega]; exact hn
    · have ih := stpG_ge h0 hs hk n e
      have a : stpG w (n + 1) = stpG w n := by simp only [stpG]; rw [if_pos e]
      rw [a]; exact ⟨ih.1, by omega, ih.2.2⟩
theorem takeF_n {T : Int → Int} {rd aw v : Int} {R : RL} (h : (takeF T rd aw R v).1 ≠ 0) : (takeF T rd aw R v).2 = R := by
  unfold takeF at h ⊢
  split
  · rfl
  · rename_i z1
    split
    · rfl
    · rename_i z2
      split
      · rfl
      · rename_i z3; rw [if_neg z1, if_neg z2, if_neg z3] at h; exact absurd rfl h
/-- how many letters come into the row -/
noncomputable def cnL (T : Int → Int) (rd aw : Int) (num : Int → Int) (n : Nat) : Int := if (layS T rd aw num n).1 = 0 then (n : Int) else stpG (fun j => (layS T rd aw num j).1) n
theorem cnL_ok {T : Int → Int} {rd aw : Int} {num : Int → Int} {n : Nat} : (0 ≤ cnL T rd aw num n ∧ cnL T rd aw num n ≤ n) ∧ (layS T rd aw num n).2 = (layS T rd aw num (cnL T rd aw num n).toNat).2 ∧ (layS T rd aw num (cnL T rd aw num n).toNat).1 = 0 := by
  unfold cnL
  by_cases e : (layS T rd aw num n).1 = 0
  · rw [if_pos e, show ((n : Int)).toNat = n by omega]
    exact ⟨by omega, rfl, e⟩
  · rw [if_neg e]
    obtain ⟨a, b, c, c2⟩ := stpG_ge (w := fun j => (layS T rd aw num j).1) rfl layS_w (k := 0) rfl n e
    have st := layS_st c2 n (by omega)
    refine ⟨by omega, ?_, c⟩
    rw [st, layS_s, if_neg (fun z => z c)]
    rw [layS_s, if_neg (fun z => z c)] at c2
    exact takeF_n c2
theorem cnL_lt {T : Int → Int} {rd aw : Int} {num : Int → Int} {n i : Nat} (hi : i < n) : (i : Int) < cnL T rd aw num n ↔ (layS T rd aw num (i + 1)).1 = 0 := by
  unfold cnL
  by_cases e : (layS T rd aw num n).1 = 0
  · rw [if_pos e]
    exact ⟨fun _ => (layS_suf n (by omega) e).2, fun _ => by omega⟩
  · rw [if_neg e]
    constructor
    · intro h
      rcases Classical.em ((layS T rd aw num (i + 1)).1 = 0) with z | z
      · exact z
      · have := stpG_lt (w := fun j => (layS T rd aw num j).1) rfl layS_w (i + 1) z n (by omega)
        omega
    · intro h
      have := (stpG_ge (w := fun j => (layS T rd aw num j).1) rfl layS_w (k := i + 1) h n e).1
      omega
theorem Tr.cg {σ : Mem} {t : Int} (h : Tr σ t) (T : Int → Int) (rd aw : Int) {m : Nat} (hm : (m : Int) ≤ σ (102 + 2 * t.toNat) 1) : layS T rd aw (σ (103 + 2 * t.toNat)) m = layS T rd aw (fun i => σ 132 (40 * t + i)) m :=
  layS_cg m (fun i a b => h.2.2.2.2 i a (by omega))
theorem Tr.sg {σ : Mem} {t : Int} (h : Tr σ t) (T : Int → Int) (rd aw : Int) {m : Nat} (hm : (m : Int) ≤ σ (102 + 2 * t.toNat) 1) : stpG (fun j => (layS T rd aw (σ (103 + 2 * t.toNat)) j).1) m = stpG (fun j => (layS T rd aw (fun i => σ 132 (40 * t + i)) j).1) m :=
  stpG_cg m (fun j hj => by rw [h.cg T rd aw (by omega)])
theorem sp17 : SP17 II := by
  intro E σ t w hI hR ht hw
  obtain ⟨T, f, e6, hT, hH, hP, hc2, hS, hM, hf, hTr, hPa⟩ := hI.ex
  have hTr' : TrayOK (up σ 115 0 0) := hI.thr.2.2.2.2.2.1
  have e0 : ∀ c, c ≠ 115 → up σ 115 0 0 c = σ c := fun c hc => up_cell hc
  refine c_BC_row (b_BC_row_0 (by omega) (s_trayAndWhat (by omega) hTr (fun h => ⟨fun z => absurd z (by decide), fun _ => ?_⟩) (fun h h2 hm => ⟨fun z => absurd z (by decide), fun _ => ?_⟩) (fun h h2 hm => ⟨fun _ => ⟨h, ?_⟩, fun z => absurd rfl z⟩)))
  · exact c_Mod_row (b_Mod_row_0 (by omega) (s_within (fun z => ⟨fun _ => s_noTr (by omega) hTr' (fun _ => ⟨fun z => absurd z (by decide), fun _ => ⟨rfl, hI.thr⟩⟩) (fun z1 _ => by omega) (fun z1 _ => by omega), fun y => absurd y (by decide)⟩) (fun z => ⟨fun y => absurd rfl y, fun _ => ⟨rfl, hI.thr⟩⟩)))
  · exact c_Mod_row (b_Mod_row_0 (by omega) (s_within (fun z => ⟨fun _ => s_noTr (by omega) hTr' (fun z => absurd h z) (fun _ _ => ⟨fun z => absurd z (by decide), fun _ => ⟨rfl, hI.thr⟩⟩) (fun _ z => absurd hm (by rw [← e0 130 (by decide)]; exact z.ne)), fun y => absurd y (by decide)⟩) (fun z => by omega)))
  · have b := hm.2.2.2.1
    refine s_Doer_layRow (n := σ (102 + 2 * t.toNat) 1) (by omega) stg50 hT hP hc2 hS h b (by omega) (by omega) (fun τ hF hRC h3 h2' => ?_)
    rw [hm.cg T (f 0) (awo T (f 2)) (by omega)] at hRC h3
    rw [hm.sg T (f 0) (awo T (f 2)) (by omega)] at h2'
    have hI2 := hI.row hF
    have M : ∀ (τ2 : Mem) (x : Int), Fr rowD σ τ2 → (w = 0 → x = stpG (fun j => (layS T (f 0) (awo T (f 2)) (fun i => σ 132 (40 * t + i)) j).1) (σ (102 + 2 * t.toNat) 1).toNat) → (w = 1 → x = (layS T (f 0) (awo T (f 2)) (fun i => σ 132 (40 * t + i)) (σ (102 + 2 * t.toNat) 1).toNat).1) → (w = 2 → x = endV (gM T) (layS T (f 0) (awo T (f 2)) (fun i => σ 132 (40 * t + i)) (σ (102 + 2 * t.toNat) 1).toNat).2) → CI E y_Mod_row 400 [vr 115, vi t, vi w] τ2 (fun y υ => x = y ∧ II υ) := by
      intro τ2 x hF2 x0 x1 x2
      have g : ∀ c, c ∉ rowD → c ≠ 115 → up τ2 115 0 0 c = σ c := fun c a1 a2 => by rw [up_cell a2, hF2 c a1]
      refine c_Mod_row (b_Mod_row_0 (by omega) (s_within (fun z => ⟨fun _ => ?_, fun y => absurd y (by decide)⟩) (fun z => by omega)))
      refine s_noTray (by omega) (fun z => absurd h z) (fun _ z => absurd z (by rw [g 130 (by decide) (by decide)]; exact hm.ne)) (fun _ _ => ⟨fun _ => ?_, fun z => absurd rfl z⟩)
      refine t_laysTold (n := σ (102 + 2 * t.toNat) 1) (by omega) hT (hM.fr (g 116 (by decide) (by decide))) hf h (by rw [g 131 (by decide) (by decide)]; exact hm.2.2.1.symm) b (fun τ3 hF3 hK3 hR3 h25 => ?_)
      rw [g 132 (by decide) (by decide)] at hR3 h25
      rw [g 132 (by decide) (by decide)]
      have hF4 : Fr scrt σ τ3 := ((hF2.wk (by decide)).tr (Fr.rf.up (by decide))).tr (hF3.wk (by decide))
      have k2 : keep [0, 22, 23, 25, 35] σ τ3 := fun k hk => by
        have hk' : k ≠ 0 ∧ k ∉ [22, 23, 25] := by simp at hk ⊢; omega
        rw [hK3 k hk'.2, up_nk hk'.1, hF2 115 (by decide)]
      have fin : II τ3 := hI.m2 hF4 k2
      rw [h25]
      refine ⟨fun n0 => ⟨fun n1 => ?_, fun n1 => ⟨x1 n1, fin⟩⟩, fun n0 => ⟨fun hne => ⟨?_, fin⟩, fun he => ⟨?_, fin⟩⟩⟩
      · have t6 : τ3 116 = T := by rw [hF3 116 (by decide), g 116 (by decide) (by decide), e6]
        refine s_mendedBy (R := (layS T (f 0) (awo T (f 2)) (fun i => σ 132 (40 * t + i)) (σ (102 + 2 * t.toNat) 1).toNat).2) (by omega) (by rw [t6]; exact hT) (by rw [t6]; exact (layS_RV _).mem) (by rw [t6]; exact hR3) (fun τ4 o hF5 _ _ => ⟨by rw [t6]; exact x2 (by omega), ?_⟩)
        exact fin.same (hF5.wk (by decide)) (fun k _ => by rw [hF5 115 (by decide)])
      · rw [if_neg hne]; exact x0 n0
      · rw [x0 n0]; exact stpG_0 layS_w _ he
    refine ⟨fun n0 => ⟨fun n1 => ?_, fun n1 => ?_⟩, fun n0 => ?_⟩
    · have hP2 := hP.d91 hF (fun c hc => rowD_lt hc)
      have hRV := layS_RV (T := T) (rd := f 0) (aw := awo T (f 2)) (num := fun i => σ 132 (40 * t + i)) (σ (102 + 2 * t.toNat) 1).toNat
      refine s_Row_end (Or.inl rfl) (by omega) hP2.2.2.2.1 (hP2.rb hT (by rw [hF 2 (by decide)]; exact hc2)) (RV.in hP2 hT hRV) (Rb_of hT hRV.mem) hRC (fun τ2 hF2 _ => ?_)
      exact M τ2 _ (hF.tr ((Fr5 hF2).wk (fun c hc => List.mem_cons_of_mem _ hc))) (fun z => by omega) (fun z => by omega) (fun _ => rfl)
    · exact M τ _ hF (fun z => by omega) (fun _ => h3) (fun z => by omega)
    · exact M τ _ hF (fun _ => h2') (fun z => by omega) (fun z => by omega)
theorem sp10 : SP10 II := by
  intro E σ t hI hR ht
  obtain ⟨T, f, e6, hT, hH, hP, hc2, hS, hM, hf, hTr, hPa⟩ := hI.ex
  have hTr' : TrayOK (up σ 115 0 0) := hI.thr.2.2.2.2.2.1
  have e0 : ∀ c, c ≠ 115 → up σ 115 0 0 c = σ c := fun c hc => up_cell hc
  have n10 := hPa.2.1
  refine c_BC_morning (b_BC_morning_0 (by omega) (s_trayCode (by omega) hTr (fun h => ⟨fun z => absurd z (by decide), fun _ => ?_⟩) (fun h hm => ⟨fun z => absurd z (by decide), fun _ => ?_⟩) (fun h hm => ⟨fun _ => ⟨h, ?_⟩, fun z => absurd rfl z⟩)))
  · exact c_Mod_morning (b_Mod_morning_0 (by omega) (s_noTr (by omega) hTr' (fun _ => ⟨fun z => absurd z (by decide), fun _ => ⟨rfl, hI.thr⟩⟩) (fun z => absurd z h) (fun z => absurd z h)))
  · exact c_Mod_morning (b_Mod_morning_0 (by omega) (s_noTr (by omega) hTr' (fun z => absurd h z) (fun _ _ => ⟨fun z => absurd z (by decide), fun _ => ⟨rfl, hI.thr⟩⟩) (fun _ z => absurd hm (by rw [← e0 130 (by decide)]; exact z.ne))))
  · have b := hm.2.2.2.1
    refine s_Doer_layRow (n := σ (102 + 2 * t.toNat) 1) (by omega) stg50 hT hP hc2 hS h b (by omega) (by omega) (fun τ hF hRC h3 _ => ?_)
    rw [hm.cg T (f 0) (awo T (f 2)) (by omega)] at hRC h3
    rw [h3]
    have hRV := layS_RV (T := T) (rd := f 0) (aw := awo T (f 2)) (num := fun i => σ 132 (40 * t + i)) (σ (102 + 2 * t.toNat) 1).toNat
    generalize hL : layS T (f 0) (awo T (f 2)) (fun i => σ 132 (40 * t + i)) (σ (102 + 2 * t.toNat) 1).toNat = L at hRC hRV ⊢
    have M : ∀ (τ2 : Mem), (∀ c, c ∉ rowD → c ∉ 50 :: pasC → τ2 c = σ c) → ∀ K : Int → Mem → Prop, (∀ τ3 : Mem, Fr [115, 120, 121, 122, 123, 124, 125] τ2 τ3 → keep [0, 22, 23, 25] τ2 τ3 → MRow τ3 (gM T) L.2 → (L.1 = 0 → CV E y_Mod_keeps (400 - 1) [vr 115] τ3 (fun τ3 => CI E y_Mod_goesMorning (400 - 1) [vr 115] τ3 (fun x4 τ4 => CV E y_Mod_notes (400 - 1) [vr 115] τ4 (fun τ5 => K x4 τ5)))) ∧ (L.1 ≠ 0 → K (w32 ((-10) - L.1)) τ3)) → CI E y_Mod_morning 400 [vr 115, vi t] τ2 K := by
      intro τ2 hF2 K q
      have g : ∀ c, c ∉ rowD → c ∉ 50 :: pasC → c ≠ 115 → up τ2 115 0 0 c = σ c := fun c a1 a2 a3 => by rw [up_cell a3, hF2 c a1 a2]
      refine c_Mod_morning (b_Mod_morning_0 (by omega) (s_noTray (by omega) (fun z => absurd h z) (fun _ z => absurd z (by rw [g 130 (by decide) (by decide) (by decide)]; exact hm.ne)) (fun _ _ => ⟨fun _ => ?_, fun z => absurd rfl z⟩)))
      refine t_laysTold (n := σ (102 + 2 * t.toNat) 1) (by omega) hT (hM.fr (g 116 (by decide) (by decide) (by decide))) hf h (by rw [g 131 (by decide) (by decide) (by decide)]; exact hm.2.2.1.symm) b (fun τ3 hF3 hK3 hR3 h25 => ?_)
      rw [g 132 (by decide) (by decide) (by decide), hL] at hR3 h25
      rw [h25]
      refine q τ3 ((Fr.rf.up (by decide)).tr hF3) (fun k hk => ?_) hR3
      have hk' : k ≠ 0 ∧ k ∉ [22, 23, 25] := by simp at hk ⊢; omega
      rw [hK3 k hk'.2, up_nk hk'.1]
    refine ⟨fun hz => ?_, fun hz => ?_⟩
    · refine s_Past_keep (by omega) (hPa.c.fr (fun c c0 c1 c2 => hF c (by simp [rowD, rowS]; omega))) (H := σ 116 2) (f := f) (by rw [e6]; exact hS.fr (fun k _ _ => by rw [hF 50 (by decide)]) (fun _ _ _ => rfl)) (fun τ1 hF1 hC1 => ?_)
      have e62 : σ 116 2 = T 2 := by rw [e6]
      rw [e62] at hC1
      have r1 : ∀ c, 73 ≤ c → c ≤ 81 → τ1 c = τ c := fun c c0 c1 => hF1 c (by simp [pasC]; omega)
      have hRC1 : RowC τ1 73 (gM T) L.2 := by
        obtain ⟨h1, h2, h3, h4, h5, h6, h7⟩ := hRC
        exact ⟨by rw [r1 73 (by decide) (by decide)]; exact h1, h2, by rw [r1 73 (by decide) (by decide)]; exact h3, h4.congr (fun i _ _ => by rw [r1 _ (by decide) (by decide), r1 _ (by decide) (by decide), r1 _ (by decide) (by decide), r1 _ (by decide) (by decide)]; exact ⟨rfl, rfl, rfl, rfl⟩), fun x a b => by rw [r1 _ (by decide) (by decide)]; exact h5 x a b, h6.congr (fun i _ _ => by rw [r1 _ (by decide) (by decide)]), by rw [r1 _ (by decide) (by decide)]; exact h7⟩
      have hP1 : HP τ1 T := (hP.d91 hF (fun c hc => rowD_lt hc)).d91 hF1 (fun c hc => by simp [pasC]; omega)
      have hS1 : ST τ1 50 (T 2) f := hS.fr (fun k _ _ => by rw [hF1 50 (by decide), hF 50 (by decide)]) (fun _ _ _ => rfl)
      refine u_readRow (by omega) stg50 hT hP1 hS1 hRV hRC1 (fun τ2 hF2 hRC2 hS2 => ?_)
      have g2 : ∀ c, c ∉ rowD → c ∉ 50 :: pasC → τ2 c = σ c := fun c a1 a2 => by
        rw [hF2 c (fun z => by
          rcases List.mem_cons.mp z with rfl | z
          · exact a2 List.mem_cons_self
          · exact a1 (List.mem_cons_of_mem _ z)), hF1 c (fun z => a2 (List.mem_cons_of_mem _ z)), hF c a1]
      refine M τ2 g2 _ (fun τ3 hF3 hK3 hR3 => ⟨fun _ => ?_, fun z => absurd hz z⟩)
      have m6 : τ3 116 = σ 116 := by rw [hF3 116 (by decide), g2 116 (by decide) (by decide)]
      refine s_keeps (fun τ4 hF4 hw4 => ?_)
      have m7 : τ4 116 = σ 116 := by rw [hF4.one (by decide), m6]
      refine t_goesMorning (by omega) hT (hM.fr m7) hRV (hR3.fr (hF4.one (by decide)) (hF4.one (by decide)) (hF4.one (by decide)) (hF4.one (by decide)) (hF4.one (by decide))) (fun τ5 hF5 hK5 h55 hS5 _ => ?_)
      refine s_notes n10 (hPa.m.fr n10.2 (fun k k0 k1 => by rw [h55 k (by omega), m7])) (f := f) (fun k k0 k1 => by rw [hF5 126 (by decide), hw4 k k0 k1, m6]; exact hM.2 k k0 k1) (fun τ6 hF6 ho hPM => ?_)
      refine ⟨rfl, hI.deed2 (T := T) (f := morF T f L.2) e6 (fun c hc => ?_) (fun k hk => ?_) (fun k hk => ?_) (hC1.fr (fun c c0 c1 c2 => ?_)) hPM (hS2.fr (fun k _ _ => ?_) (fun _ _ _ => rfl)) ⟨fun k k0 hk => ?_, fun k k0 k1 => ?_⟩⟩
      · have n1 : c ∉ rowD ∧ c ∉ 50 :: pasC ∧ c ≠ 116 ∧ c ∉ mornC ∧ c ≠ 126 ∧ c ∉ [115, 120, 121, 122, 123, 124, 125] := by simp [dee, scrt, pasC, rowD, rowS, mornC] at hc ⊢; omega
        rw [hF6.one n1.2.2.1, hF5 c n1.2.2.2.1, hF4.one n1.2.2.2.2.1, hF3 c n1.2.2.2.2.2, g2 c n1.1 n1.2.1]
      · have hk' : k ∉ [22, 23] ∧ k ∉ [0, 22, 23, 25] := by simp at hk ⊢; omega
        rw [hF6.one (by decide), hK5 k hk'.1, hF4.one (by decide), hK3 k hk'.2, g2 115 (by decide) (by decide)]
      · rw [ho k (by omega), h55 k (by omega), m7]
      · rw [hF6.one (by omega), hF5 c (by simp [mornC]; omega), hF4.one (by omega), hF3 c (by simp; omega), hF2 c (by simp [rowS]; omega)]
      · rw [hF6.one (by decide), hF5 50 (by decide), hF4.one (by decide), hF3 50 (by decide)]
      · rw [ho k (by omega), h55 k (by omega), m7, e6]
      · rw [ho _ (by omega)]; exact hS5.2 k k0 k1
    · refine M τ (fun c a _ => hF c a) _ (fun τ3 hF3 hK3 hR3 => ⟨fun z => absurd z hz, fun _ => ⟨rfl, ?_⟩⟩)
      exact (hI.row hF).m2 (hF3.wk (by decide)) (hK3.wk (by decide))
