/-! the reader under test: readHand, readName, readLaw -/
theorem or16 : ∀ (s : Fin 16) (v : Fin 4), (0 ≤ ior (s.val : Int) (ish 1 (v.val : Int)) ∧ ior (s.val : Int) (ish 1 (v.val : Int)) ≤ 15) ∧ ior 0 (ish 1 (v.val : Int)) = ish 1 (v.val : Int) := by decide +kernel
theorem orS {s v : Int} (hs : 0 ≤ s ∧ s ≤ 15) (hv : 0 ≤ v ∧ v ≤ 3) : (0 ≤ ior s (ish 1 v) ∧ ior s (ish 1 v) ≤ 15) ∧ ior 0 (ish 1 v) = ish 1 v := by
  have := or16 ⟨s.toNat, by omega⟩ ⟨v.toNat, by omega⟩
  simp only [show ((s.toNat : Nat) : Int) = s by omega, show ((v.toNat : Nat) : Int) = v by omega] at this
  exact this
theorem DR.u15 {σ : Mem} {T : TB} {s : Int} (h : DR σ T) : DR (up σ 15 (T 2) s) T := by
  have e : ∀ c, c ≠ 15 → up σ 15 (T 2) s c = σ c := fun c hc => up_cell hc
  obtain ⟨a1, a2, a3, a4, a5, a6, a7⟩ := h
  refine ⟨by rw [e 14 (by decide)]; exact a1, ⟨fun y y0 y1 => by rw [e 16 (by decide), up_nk (by omega)]; exact a2.1 y y0 y1, fun y y0 y1 => by rw [e 16 (by decide)]; exact a2.2 y y0 y1⟩, by rw [e 17 (by decide)]; exact a3, by rw [e 18 (by decide)]; exact a4, by rw [e 19 (by decide)]; exact a5, ?_, by rw [e 70 (by decide), e 71 (by decide)]; exact a7⟩
  unfold DL; rw [e 68 (by decide), e 69 (by decide)]; exact a6
theorem DR.hd {σ τ : Mem} {T : TB} {s v : Int} (h : DR σ T) (hQ : MT T) (h2 : T 2 < 3) (e : ∀ c, c ∈ [15, 17, 18, 19, 68, 69, 70, 71] → τ c = σ c) (e15 : σ 15 (T 2) = s) (e16 : τ 16 (T 2) = v) (f16 : ∀ y, y ≠ T 2 → τ 16 y = σ 16 y) (e14 : τ 14 1 = T 2 + 1) (f14 : ∀ y, y ≠ 1 → τ 14 y = σ 14 y) : DR τ (hdP T s v) := by
  obtain ⟨a1, a2, a3, a4, a5, a6, a7⟩ := h
  have b2 := hQ.2.1
  have b3 := hQ.2.2.1
  have b6 := hQ.2.2.2.2.2.1
  have g : ∀ y : Int, y ≠ 2 → y ≠ 27 + T 2 → y ≠ 30 + T 2 → hdP T s v y = T y := fun y p q r => by unfold hdP; rw [upT_n p, upT_n r, upT_n q]
  have g2 : hdP T s v 2 = T 2 + 1 := upT_s
  have g27 : hdP T s v (27 + T 2) = s := by unfold hdP; rw [upT_n (by omega), upT_n (by omega), upT_s]
  have g30 : hdP T s v (30 + T 2) = v := by unfold hdP; rw [upT_n (by omega), upT_s]
  refine ⟨?_, ⟨fun y y0 y1 => ?_, fun y y0 y1 => ?_⟩, fun y y0 y1 => ?_, fun k2 w2 k0 k1 w0 w1 => ?_, fun y y0 y1 => ?_, ⟨?_, fun y y0 y1 => ?_⟩, fun y y0 y1 => ?_⟩
  · rw [f14 0 (by decide), e14, f14 2 (by decide), f14 3 (by decide), f14 4 (by decide), f14 5 (by decide), f14 6 (by decide), f14 18 (by decide), g 1 (by omega) (by omega) (by omega), g2, g 3 (by omega) (by omega) (by omega), g 4 (by omega) (by omega) (by omega), g 0 (by omega) (by omega) (by omega), g 5 (by omega) (by omega) (by omega), g 6 (by omega) (by omega) (by omega)]
    exact ⟨a1.1, rfl, a1.2.2⟩
  · rw [g2] at y1
    by_cases z : y = T 2
    · rw [z, e 15 (by decide), e15, e16, g27, g30]; exact ⟨rfl, rfl⟩
    · rw [e 15 (by decide), f16 y z, g _ (by omega) (by omega) (by omega), g _ (by omega) (by omega) (by omega)]; exact a2.1 y y0 (by omega)
  · rw [g2] at y0; rw [f16 y (by omega)]; exact a2.2 y (by omega) y1
  · rw [g 3 (by omega) (by omega) (by omega)] at y1; rw [e 17 (by decide), g _ (by omega) (by omega) (by omega)]; exact a3 y y0 y1
  · rw [e 18 (by decide), g _ (by omega) (by omega) (by omega)]; exact a4 k2 w2 k0 k1 w0 w1
  · rw [g 6 (by omega) (by omega) (by omega)] at y1; rw [e 19 (by decide), g _ (by omega) (by omega) (by omega)]; exact a5 y y0 y1
  · rw [e 68 (by decide), g 135 (by omega) (by omega) (by omega)]; exact a6.1
  · rw [g 135 (by omega) (by omega) (by omega)] at y1; rw [e 69 (by decide), g _ (by omega) (by omega) (by omega)]; exact a6.2 y y0 y1
  · rw [e 70 (by decide), e 71 (by decide), g _ (by omega) (by omega) (by omega), g _ (by omega) (by omega) (by omega), g _ (by omega) (by omega) (by omega)]; exact a7 y y0 y1
section
variable {E : EN} {t : Int → Int} {n N : Int} {kd st vl en : Int → Int}
theorem s_readHand {d : Nat} {σ : Mem} {K : Int → Mem → Prop} {j : Int} {T : TB} (hd : 2 ≤ d) (hT : TokOK t n N kd st vl en) (hs : CN kd st vl N σ j T) (hj : j < N) (q : ∀ x τ, LO kd st vl N σ τ x j (pHand kd vl j T) → K x τ) : CI E y_Rdr_readHand d [vr 64] σ K := by
  obtain ⟨h0, hD, hQ⟩ := hs
  have s6 := h0.2.2.2.2.2
  have e1 : σ 14 1 = T 2 := hD.1.2.1
  have q2 := hQ.1.2.1
  have dead : ∀ (τ : Mem) (a : Int), τ 64 7 ≠ 0 → K 0 (up τ 14 1 (w32 (τ 14 1 + 1))) → Z E y_Rdr_readHand d 48 [some (vr 64), some (vi (T 2)), some (vi a)] [] τ (qi K) := by
    intro τ a h7 hk
    have d1 : Z E y_Rdr_readHand d 101 [some (vr 64), some (vi (T 2)), some (vi a)] [] τ (qi K) := b_Rdr_readHand_101 (by omega) ⟨fun _ => b_Rdr_readHand_149 ⟨fun _ => hk, fun z => absurd z h7⟩, fun z => absurd z h7⟩
    exact b_Rdr_readHand_48 (by omega) ⟨fun _ => d1, fun _ => ⟨fun _ => d1, fun z => absurd z h7⟩⟩
  refine c_Rdr_readHand (b_Rdr_readHand_0 (by omega) ?_)
  rw [e1, h0.2.2.2.1, wid (x := j + 1) (by omega) (by omega)]
  refine ⟨fun lt => ?_, fun ge => s_failL h0 (by decide) (fun τ hF hf h7 => ⟨Or.inl rfl, q 0 τ ?_⟩)⟩
  · have er : pHand kd vl j T = pHl kd vl T (pSk kd vl T) 1000 (j + 1) 0 := by unfold pHand; rw [if_neg (by omega)]
    rw [er] at q
    have loop : ∀ (F : Nat) (i s a : Int) (τ : Mem), N < i + F → (0 ≤ a ∧ a < i) → Fr rdC σ τ → C0 kd st vl N τ i → DR τ T → τ 15 (T 2) = s → (0 ≤ s ∧ s ≤ 15) → j < i → (∀ x τ2, LO kd st vl N σ τ2 x j (if kd i = 1 then pHl kd vl T (pSk kd vl T) F i s else pSk kd vl T s i) → K x τ2) → Z E y_Rdr_readHand d 48 [some (vr 64), some (vi (T 2)), some (vi a)] [] τ (qi K) := by
      intro F
      induction F with
      | zero => intro i s a τ hN ha hF hc; have := hc.2.2.2.2.2; intros; omega
      | succ F ih =>
        intro i s a τ hN ha hF hc hDt e15 hs15 hji qq
        have c6 := hc.2.2.2.2.2
        refine b_Rdr_readHand_48 (by omega) ⟨fun z => absurd z (by omega), fun _ => ⟨fun z => absurd hc.2.2.2.2.1 z, fun _ => ?_⟩⟩
        rw [hc.2.2.2.1, hc.1]
        refine ⟨⟨by omega, by omega⟩, fun ne => ?_, fun e => ⟨⟨q2.1, lt⟩, ?_⟩⟩
        · rw [if_neg ne] at qq
          refine b_Rdr_readHand_101 (by omega) ⟨fun z => absurd hc.2.2.2.2.1 z, fun _ => ?_⟩
          rw [hc.2.2.2.1, hc.1]
          have t14 : τ 14 1 = T 2 := hDt.1.2.1
          refine ⟨⟨by omega, by omega⟩, fun n3 => b_Rdr_readHand_149 ⟨fun z => absurd hc.2.2.2.2.1 z, fun _ => qq 1 _ ?_⟩, fun e3 => ?_⟩
          · have er2 : pSk kd vl T s i = (0, i, hdP T s 0) := by unfold pSk; rw [if_neg n3]
            rw [er2, t14, wid (x := T 2 + 1) (by omega) (by omega)]
            refine ⟨hF.up (by decide), fun _ => Or.inl ⟨rfl, ⟨hc.uc (by omega), ?_, hQ.hd (by show j ≤ i; omega) lt hs15 (by omega)⟩, hji⟩, fun z => absurd rfl z⟩
            exact hDt.hd hQ.1 lt (fun c hc2 => up_cell (by intro z; subst z; simp at hc2)) e15 (by rw [up_nc (by decide)]; exact hDt.2.1.2 _ (Int.le_refl _) lt) (fun y _ => up_nc (by decide)) (up_same _ _ _ _) (fun y hy => up_nk hy)
          · have il : i < N := kd_lt hT ⟨c6.1, c6.2.1⟩ (by omega)
            have er2 : pSk kd vl T s i = numP kd vl 0 9 (i + 1) T (fun v i2 => (0, i2, hdP T s v)) := by unfold pSk; rw [if_pos e3]
            rw [er2] at qq
            rw [wid (x := i + 1) (by omega) (by omega)]
            refine s_takeNumber (by omega) hT (hc.u6 (i := i + 1) (by omega)) (fun n1 n2 n3 jl => ⟨⟨q2.1, lt⟩, b_Rdr_readHand_149 ⟨fun z => absurd (by rw [up_nc (by decide), up_nk (by decide), up_nk (by decide)]; exact hc.2.2.2.2.1) z, fun _ => qq 1 _ ?_⟩⟩) (fun f υ hf hn hF2 hfl h7 => ⟨⟨q2.1, lt⟩, b_Rdr_readHand_149 ⟨fun _ => qq 0 _ ?_, fun z => absurd (by rw [up_nc (by decide)] at z; exact z) h7⟩⟩)
            · rw [numP_y n1 n2 n3]
              have t2 : up (up (up τ 64 6 (i + 1)) 64 6 (i + 1 + 1)) 16 (T 2) (vl (i + 1)) 14 1 = T 2 := by rw [up_nc (by decide), up_nc (by decide), up_nc (by decide)]; exact t14
              rw [t2, wid (x := T 2 + 1) (by omega) (by omega)]
              refine ⟨(((hF.up (by decide)).up (by decide)).up (by decide)).up (by decide), fun _ => Or.inl ⟨rfl, ⟨(((hc.u6 (i := i + 1) (by omega)).u6 (i := i + 1 + 1) (by omega)).uc (by omega)).uc (by omega), ?_, hQ.hd (by show j ≤ i + 1 + 1; omega) lt hs15 ⟨n2, n3⟩⟩, by show j < i + 1 + 1; omega⟩, fun z => absurd rfl z⟩
              refine hDt.hd hQ.1 lt (fun c hc2 => ?_) e15 (by rw [up_nc (by decide), up_same]) (fun y hy => by rw [up_nc (by decide), up_nk hy, up_nc (by decide), up_nc (by decide)]) (up_same _ _ _ _) (fun y hy => by rw [up_nk hy, up_nc (by decide), up_nc (by decide), up_nc (by decide)])
              rw [up_cell (by intro z; subst z; simp at hc2), up_cell (by intro z; subst z; simp at hc2), up_cell (by intro z; subst z; simp at hc2), up_cell (by intro z; subst z; simp at hc2)]
            · rw [hn]
              exact LO.flt (((hF.tr ((Fr.rf.up (by decide)).tr (hF2.wk (by decide)))).up (by decide)).up (by decide)) hf (((hfl T).uc (by decide)).uc (by decide))
        · rw [if_pos e] at qq
          have er2 : pHl kd vl T (pSk kd vl T) (F + 1) i s = numP kd vl 0 3 i T (fun v i => if kd i = 1 then pHl kd vl T (pSk kd vl T) F i (ior s (ish 1 v)) else pSk kd vl T (ior s (ish 1 v)) i) := rfl
          rw [er2] at qq
          rw [e15]
          refine s_takeNumber (by omega) hT hc (fun n1 n2 n3 jl => ?_) (fun f υ hf hn hF2 hfl h7 => dead _ _ (by rw [up_nc (by decide)]; exact h7) (qq 0 _ ?_))
          · rw [numP_y n1 n2 n3] at qq
            rw [wid (x := a + 1) (by omega) (by omega)]
            exact ih (i + 1) _ (a + 1) _ (by omega) (by omega) ((hF.up (by decide)).up (by decide)) ((hc.u6 (i := i + 1) (by omega)).uc (by omega)) hDt.c64.u15 (up_same _ _ _ _) (orS hs15 ⟨n2, n3⟩).1 (by omega) qq
          · rw [hn]
            exact LO.flt (((hF.tr (hF2.wk (by decide))).up (by decide)).up (by decide)) hf (((hfl T).uc (by decide)).uc (by decide))
    have er2 : pHl kd vl T (pSk kd vl T) 1000 (j + 1) 0 = numP kd vl 0 3 (j + 1) T (fun v i => if kd i = 1 then pHl kd vl T (pSk kd vl T) 999 i (ior 0 (ish 1 v)) else pSk kd vl T (ior 0 (ish 1 v)) i) := rfl
    rw [er2] at q
    refine s_takeNumber (by omega) hT (h0.u6 (i := j + 1) (by omega)) (fun n1 n2 n3 jl => ⟨⟨q2.1, lt⟩, ?_⟩) (fun f υ hf hn hF2 hfl h7 => ⟨⟨q2.1, lt⟩, dead _ _ (by rw [up_nc (by decide)]; exact h7) (q 0 _ ?_)⟩)
    · rw [numP_y n1 n2 n3, (orS (s := 0) (by omega) ⟨n2, n3⟩).2] at q
      have b := (orS (s := 0) (by omega) ⟨n2, n3⟩).1
      rw [(orS (s := 0) (by omega) ⟨n2, n3⟩).2] at b
      exact loop 999 (j + 1 + 1) _ 0 _ (by omega) (by omega) (((Fr.rf.up (by decide)).up (by decide)).up (by decide)) (((h0.u6 (i := j + 1) (by omega)).u6 (i := j + 1 + 1) (by omega)).uc (by omega)) hD.c64.c64.u15 (up_same _ _ _ _) b (by omega) q
    · rw [hn]
      exact LO.flt ((((Fr.rf.up (by decide)).tr (hF2.wk (by decide))).up (by decide)).up (by decide)) hf (((hfl T).uc (by decide)).uc (by decide))
  · have er : pHand kd vl j T = fP kd 4 j T := by unfold pHand; rw [if_pos (by omega)]
    rw [er]; exact LO.flt (hF.wk (by decide)) (by decide) (hf T)
theorem TK.word {s e k v : Int} (h : TK t n s e k v) : (200 ≤ k ↔ sml (t s)) ∧ (200 ≤ k → v = e - s ∧ ∀ i : Int, s ≤ i → i < e → sml (t i)) := by
  obtain ⟨h0, hw, he, hs, hdg, ho⟩ := h
  by_cases a : sml (t s)
  · have := hs a
    have k2 : 200 ≤ k := by rcases this.2 with ⟨m, m1, m2, m3⟩ | ⟨m1, m2⟩ <;> omega
    exact ⟨⟨fun _ => a, fun _ => k2⟩, fun _ => ⟨this.1, (he.2.1 a).1⟩⟩
  · have k2 : ¬ 200 ≤ k := by
      by_cases b : dgt (t s)
      · have := (hdg b).1
        by_cases c : e - s ≤ 3
        · rw [if_pos c] at this; omega
        · rw [if_neg c] at this; omega
      · have := ho a b
        by_cases c : sgn (t s)
        · have := this.1 c; unfold sgn at c; omega
        · have := this.2 c; omega
    exact ⟨⟨fun z => absurd z k2, fun z => absurd z a⟩, fun z => absurd z k2⟩
theorem s_readName {d : Nat} {σ : Mem} {K : Int → Mem → Prop} {j : Int} {T : TB} (hd : 2 ≤ d) (hT : TokOK t n N kd st vl en) (hB : Byt σ t n) (hs : CN kd st vl N σ j T) (hj : j < N) (q : ∀ x τ, LO kd st vl N σ τ x j (pName kd vl st t j T) → K x τ) : CI E y_Rdr_readName d [vr 64] σ K := by
  obtain ⟨h0, hD, hQ⟩ := hs
  have s6 := h0.2.2.2.2.2
  have n9 := hB.1
  refine c_Rdr_readName (b_Rdr_readName_0 (by omega) ?_)
  rw [h0.2.2.2.1, wid (x := j + 1) (by omega) (by omega), h0.1, h0.2.2.1]
  have no : ¬ (200 ≤ kd (j + 1) ∧ vl (j + 1) ≤ 8) → CI E y_Rdr_fail (d - 1) [vr 64, vi 2] (up σ 64 6 (j + 1)) (fun x1 τ1 => (x1 = 0 ∨ x1 = 1) ∧ K x1 τ1) := by
    intro hno
    refine s_failL (h0.u6 (i := j + 1) (by omega)) (by decide) (fun τ hF hf h7 => ⟨Or.inl rfl, q 0 τ ?_⟩)
    have er : pName kd vl st t j T = fP kd 2 (j + 1) T := by unfold pName; rw [if_neg hno]
    rw [er]; exact LO.flt ((Fr.rf.up (by decide)).tr (hF.wk (by decide))) (by decide) (hf T)
  refine ⟨⟨by omega, by omega⟩, fun lt => no (by omega), fun ge => ⟨fun le => ?_, fun gt => no (by omega)⟩⟩
  have er : pName kd vl st t j T = (0, j + 2, upT (nmP t (st (j + 1)) T (vl (j + 1)).toNat) 6 (vl (j + 1))) := by unfold pName; rw [if_pos ⟨ge, le⟩]
  rw [er] at q
  have jl : j + 1 < N := kd_lt hT ⟨by omega, by omega⟩ (by omega)
  have tk := (hT.2.1 (j + 1) (by omega) jl).1
  have tw := tk.word.2 ge
  have tb := tk.2.2.1.1
  have t0 := tk.1
  have v0 : 0 ≤ vl (j + 1) := by omega
  have hB1 : ∀ i : Int, 0 ≤ i → i < vl (j + 1) → σ 1 (st (j + 1) + i) = t (st (j + 1) + i) ∧ sml (t (st (j + 1) + i)) := fun i i0 i1 => by
    have sm := tw.2 (st (j + 1) + i) (by omega) (by omega)
    have := (hB.2 (st (j + 1) + i) (by omega) (by omega)).1
    refine ⟨?_, sm⟩
    rw [this]; unfold sml at sm; unfold w8; omega
  have loop : ∀ (c m : Nat) (τ : Mem), (m : Int) + c = vl (j + 1) → Fr [14, 19, 64] σ τ → C0 kd st vl N τ (j + 1) → (∀ y, y ≠ 6 → τ 14 y = σ 14 y) → τ 14 6 = vl (j + 1) → (∀ i : Int, 0 ≤ i → i < m → τ 19 i = t (st (j + 1) + i) - 97) → Z E y_Rdr_readName d 57 [some (vr 64), some (vi (vl (j + 1))), some (vi (m : Int))] [] τ (qi K) := by
    intro c
    induction c with
    | zero =>
      intro m τ hm hF hc f14 e14 hv
      refine b_Rdr_readName_57 ⟨fun _ => ?_, fun z => absurd z (by omega)⟩
      rw [hc.2.2.2.1, wid (x := j + 1 + 1) (by omega) (by omega), show j + 1 + 1 = j + 2 by omega]
      refine q 1 _ ⟨(hF.wk (by decide)).up (by decide), fun _ => Or.inl ⟨rfl, ⟨hc.u6 (i := j + 2) (by omega), ?_, hQ.nm (by show j ≤ j + 2; omega) ⟨v0, le⟩ (fun x x0 x1 => (hB1 x x0 x1).2)⟩, by show j < j + 2; omega⟩, fun z => absurd rfl z⟩
      have hd2 : DR τ (upT (nmP t (st (j + 1)) T (vl (j + 1)).toNat) 6 (vl (j + 1))) := by
        have e : ∀ c, c ∈ [15, 16, 17, 18, 68, 69, 70, 71] → τ c = σ c := fun c hc => hF c (by simp at hc ⊢; omega)
        have g : ∀ y : Int, y ≠ 6 → (y < 19 ∨ 27 ≤ y) → upT (nmP t (st (j + 1)) T (vl (j + 1)).toNat) 6 (vl (j + 1)) y = T y := fun y p r => by rw [upT_n p]; exact nmP_n _ _ (by omega)
        have g6 : upT (nmP t (st (j + 1)) T (vl (j + 1)).toNat) 6 (vl (j + 1)) 6 = vl (j + 1) := upT_s
        obtain ⟨a1, a2, a3, a4, a5, a6, a7⟩ := hD
        refine ⟨?_, ⟨fun y y0 y1 => ?_, fun y y0 y1 => ?_⟩, fun y y0 y1 => ?_, fun k2 w2 k0 k1 w0 w1 => ?_, fun y y0 y1 => ?_, ⟨?_, fun y y0 y1 => ?_⟩, fun y y0 y1 => ?_⟩
        · rw [f14 0 (by decide), f14 1 (by decide), f14 2 (by decide), f14 3 (by decide), f14 4 (by decide), f14 5 (by decide), e14, f14 18 (by decide), g 1 (by omega) (by omega), g 2 (by omega) (by omega), g 3 (by omega) (by omega), g 4 (by omega) (by omega), g 0 (by omega) (by omega), g 5 (by omega) (by omega), g6]
          exact ⟨a1.1, a1.2.1, a1.2.2.1, a1.2.2.2.1, a1.2.2.2.2.1, a1.2.2.2.2.2.1, rfl, a1.2.2.2.2.2.2.2⟩
        · rw [g 2 (by omega) (by omega)] at y1; rw [e 15 (by decide), e 16 (by decide), g _ (by omega) (by omega), g _ (by omega) (by omega)]; exact a2.1 y y0 y1
        · rw [g 2 (by omega) (by omega)] at y0; rw [e 16 (by decide)]; exact a2.2 y y0 y1
        · rw [g 3 (by omega) (by omega)] at y1; rw [e 17 (by decide), g _ (by omega) (by omega)]; exact a3 y y0 y1
        · rw [e 18 (by decide), g _ (by omega) (by omega)]; exact a4 k2 w2 k0 k1 w0 w1
        · rw [g6] at y1; rw [hv y y0 (by omega), upT_n (by omega), nmP_s _ y y0 (by omega)]
        · rw [e 68 (by decide), g 135 (by omega) (by omega)]; exact a6.1
        · rw [g 135 (by omega) (by omega)] at y1; rw [e 69 (by decide), g _ (by omega) (by omega)]; exact a6.2 y y0 y1
        · rw [e 70 (by decide), e 71 (by decide), g _ (by omega) (by omega), g _ (by omega) (by omega), g _ (by omega) (by omega)]; exact a7 y y0 y1
      exact hd2.c64
    | succ c ih =>
      intro m τ hm hF hc f14 e14 hv
      have b1 := hB1 m (by omega) (by omega)
      have e1 : τ 1 = σ 1 := hF 1 (by decide)
      refine b_Rdr_readName_57 ⟨fun z => absurd z (by omega), fun _ => ?_⟩
      rw [hc.2.2.2.1, hc.2.1, wid (x := st (j + 1) + m) (by omega) (by omega), wid (x := (m : Int) + 1) (by omega) (by omega), e1, b1.1]
      have sm := b1.2
      unfold sml at sm
      rw [wid (x := t (st (j + 1) + m) - 97) (by omega) (by omega), show (m : Int) + 1 = ((m + 1 : Nat) : Int) by omega]
      refine ⟨⟨by omega, by omega⟩, ⟨by omega, by omega⟩, ⟨by omega, by omega⟩, ih (m + 1) _ (by omega) (hF.up (by decide)) (hc.uc (by omega)) (fun y hy => by rw [up_nc (by decide)]; exact f14 y hy) (by rw [up_nc (by decide)]; exact e14) (fun i i0 i1 => ?_)⟩
      by_cases z : i = m
      · rw [z, up_same]
      · rw [up_nk z]; exact hv i i0 (by omega)
  exact loop (vl (j + 1)).toNat 0 _ (by omega) ((Fr.rf.up (by decide)).up (by decide)) ((h0.u6 (i := j + 1) (by omega)).uc (by omega)) (fun y hy => by rw [up_nk hy, up_nc (by decide)]) (up_same _ _ _ _) (fun i i0 i1 => absurd i1 (by omega))
theorem s_readLaw {d : Nat} {σ : Mem} {K : Int → Mem → Prop} {j l : Int} {T : TB} (hd : 30 ≤ d) (hl : 0 ≤ l ∧ l < 4) (hT : TokOK t n N kd st vl en) (hs : CN kd st vl N σ j T) (hj : j < N) (q : ∀ x τ, LO kd st vl N σ τ x j (pLaw kd vl l j T) → K x τ) : CI E y_Rdr_readLaw d [vr 64, vi l] σ K := by
  obtain ⟨h0, hD, hQ⟩ := hs
  have s6 := h0.2.2.2.2.2
  have q135 := hQ.2.2.2.1
  refine c_Rdr_readLaw (b_Rdr_readLaw_0 (by omega) ?_)
  rw [h0.2.2.2.1, wid (x := j + 1) (by omega) (by omega)]
  refine s_takeToken (by omega) hT (h0.u6 (i := j + 1) (by omega)) (by decide) (fun e jl => ⟨fun _ => ?_, fun z => absurd z (by decide)⟩) (fun ne τ hF hf h7 => ⟨fun z => absurd rfl z, fun _ => q 0 τ ?_⟩)
  · have er : pLaw kd vl l j T = seqR (pSu kd (pAt kd vl l 6) (j + 2) T) (fun i U => (0, i, lwP U l (T 135))) := by unfold pLaw; rw [if_pos e]
    rw [er] at q
    have c1 := (h0.u6 (i := j + 1) (by omega)).u6 (i := j + 1 + 1) (by omega)
    have f1 : Fr rdC σ (up (up σ 64 6 (j + 1)) 64 6 (j + 1 + 1)) := (Fr.rf.up (by decide)).up (by decide)
    have d1 : DR (up (up σ 64 6 (j + 1)) 64 6 (j + 1 + 1)) T := hD.c64.c64
    generalize up (up σ 64 6 (j + 1)) 64 6 (j + 1 + 1) = υ at c1 f1 d1 ⊢
    refine c_Laws_begin (b_Laws_begin_0 ⟨fun z => absurd z (by omega), fun _ => ⟨fun z => absurd z (by omega), fun _ => ⟨hl, ?_⟩⟩⟩)
    have l68 : υ 68 1 = T 135 := d1.2.2.2.2.2.1.1
    rw [l68]
    have z6 : (0 : Int) = 6 - ((6 : Nat) : Int) := by decide
    have cs : CS kd st vl N (up υ 70 l (T 135)) (j + 1 + 1) T := by
      have c2 := c1.uc (c := 70) (k := l) (v := T 135) (by omega)
      obtain ⟨u1, u2, u3, u4, u5, u6⟩ := c2
      exact ⟨u1, u2, u3, u4, u5, u6, ⟨by rw [up_nc (by decide)]; exact l68, fun i i0 i1 => by rw [up_nc (by decide)]; exact d1.2.2.2.2.2.1.2 i i0 i1⟩, ⟨q135.1, by omega⟩⟩
    have hA : CAt E kd st vl N l 6 := s_Rdr_readAtom hl hT 6 (Nat.le_refl _)
    have main := fun (K2 : Int → Mem → Prop) (h : ∀ x τ, CO st N (1 + 2 * 6 + 2) (up υ 70 l (T 135)) τ x (j + 1 + 1) T (pSu kd (pAt kd vl l 6) (j + 1 + 1) T) → K2 x τ) => s_Rdr_readSum (d := d - 1) (by omega) hA hT (by omega) cs h
    rw [← z6] at main
    refine main _ (fun x τ hO => ?_)
    rw [show j + 2 = j + 1 + 1 by omega] at q
    have hc := hO.1
    refine c_Laws_finish (b_Laws_finish_0 ⟨fun z => absurd z (by omega), fun _ => ⟨fun z => absurd z (by omega), fun _ => ⟨hl, ?_⟩⟩⟩)
    have hFt : Fr rdC σ (up τ 71 l (τ 68 1)) := ((f1.up (by decide)).tr (hc.1.wk (by decide))).up (by decide)
    by_cases hz : (pSu kd (pAt kd vl l 6) (j + 1 + 1) T).1 = 0
    · obtain ⟨o1, o2, o3, o4, o5, o6⟩ := hO.2.1 hz
      rw [seqR_0 hz] at q
      generalize pSu kd (pAt kd vl l 6) (j + 1 + 1) T = r at *
      subst o1
      refine ⟨Or.inr rfl, q 1 _ ⟨hFt, fun _ => Or.inl ⟨rfl, ⟨?_, ?_, ?_⟩, by show j < r.2.1; omega⟩, fun z => absurd rfl z⟩⟩
      · obtain ⟨u1, u2, u3, u4, u5, u6, u7, u8⟩ := cs
        exact C0.uc (c := 71) ⟨by rw [hc.1 65 (by decide)]; exact u1, by rw [hc.1 66 (by decide)]; exact u2, by rw [hc.1 67 (by decide)]; exact u3, o3, o2, ⟨by show 0 ≤ r.2.1; omega, o5.2.1, s6.2.2.1, o5.2.2⟩⟩ (by omega)
      · have e : ∀ c, c ∈ [14, 15, 16, 17, 18, 19] → up τ 71 l (τ 68 1) c = υ c := fun c hc2 => by
          have n1 : c ≠ 71 ∧ c ≠ 70 ∧ c ∉ [64, 68, 69] := by simp at hc2 ⊢; omega
          rw [up_cell n1.1, hc.1 c n1.2.2, up_cell n1.2.1]
        have x3 := o6.2.1
        have x1 := o6.1
        show DR (up τ 71 l (τ 68 1)) (lwP r.2.2 l (T 135))
        have e68 : τ 68 1 = r.2.2 135 := o4.1
        have e7 : ∀ y : Int, y ≠ 7 + l → y ≠ 11 + l → y ≠ 15 + l → lwP r.2.2 l (T 135) y = r.2.2 y := fun y p q r => by unfold lwP; rw [upT_n r, upT_n q, upT_n p]
        have g : ∀ y : Int, (y < 7 ∨ 19 ≤ y) → y < 135 → lwP r.2.2 l (T 135) y = T y := fun y p q => by rw [e7 y (by omega) (by omega) (by omega)]; exact x3 y (by omega) (by omega)
        have b2 := hQ.1.2.1
        have b3 := hQ.1.2.2.1
        have b6 := hQ.1.2.2.2.2.2.1
        obtain ⟨a1, a2, a3, a4, a5, a6, a7⟩ := d1
        refine ⟨?_, ⟨fun y y0 y1 => ?_, fun y y0 y1 => ?_⟩, fun y y0 y1 => ?_, fun k2 w2 k0 k1 w0 w1 => ?_, fun y y0 y1 => ?_, ⟨?_, fun y y0 y1 => ?_⟩, fun y y0 y1 => ?_⟩
        · rw [e 14 (by decide), g 1 (by omega) (by omega), g 2 (by omega) (by omega), g 3 (by omega) (by omega), g 4 (by omega) (by omega), g 0 (by omega) (by omega), g 5 (by omega) (by omega), g 6 (by omega) (by omega)]; exact a1
        · rw [g 2 (by omega) (by omega)] at y1; rw [e 15 (by decide), e 16 (by decide), g _ (by omega) (by omega), g _ (by omega) (by omega)]; exact a2.1 y y0 y1
        · rw [g 2 (by omega) (by omega)] at y0; rw [e 16 (by decide)]; exact a2.2 y y0 y1
        · rw [g 3 (by omega) (by omega)] at y1; rw [e 17 (by decide), g _ (by omega) (by omega)]; exact a3 y y0 y1
        · rw [e 18 (by decide), g _ (by omega) (by omega)]; exact a4 k2 w2 k0 k1 w0 w1
        · rw [g 6 (by omega) (by omega)] at y1; rw [e 19 (by decide), g _ (by omega) (by omega)]; exact a5 y y0 y1
        · rw [up_nc (by decide), e7 135 (by omega) (by omega) (by omega)]; exact e68
        · rw [e7 135 (by omega) (by omega) (by omega)] at y1; rw [up_nc (by decide), e7 _ (by omega) (by omega) (by omega)]; exact o4.2 y y0 y1
        · by_cases z : y = l
          · subst z
            have f7 : lwP r.2.2 y (T 135) (7 + y) = 1 := by unfold lwP; rw [upT_n (by omega), upT_n (by omega), upT_s]
            have f11 : lwP r.2.2 y (T 135) (11 + y) = T 135 := by unfold lwP; rw [upT_n (by omega), upT_s]
            have f15 : lwP r.2.2 y (T 135) (15 + y) = r.2.2 135 - T 135 := upT_s
            refine ⟨fun _ => ⟨?_, ?_⟩, fun z => absurd f7 z⟩
            · rw [up_nc (by decide), hc.1 70 (by decide), up_same, f11]
            · rw [up_same, e68, f11, f15]; omega
          · have k : ∀ c : Int, c = 7 ∨ c = 11 ∨ c = 15 → lwP r.2.2 l (T 135) (c + y) = T (c + y) := fun c hc => by rw [e7 _ (by omega) (by omega) (by omega)]; exact x3 _ (by omega) (by omega)
            rw [k 7 (by omega), k 11 (by omega), k 15 (by omega), up_nc (by decide), hc.1 70 (by decide), up_nk z, up_nk z, hc.1 71 (by decide), up_nc (by decide)]
            exact a7 y y0 y1
      · exact hQ.lw hl (o6.mj (by omega)) (by show r.2.1 ≤ 900; omega)
    · obtain ⟨o1, o2, o3⟩ := hO.2.2 hz
      rw [seqR_n hz] at q
      subst o1
      exact ⟨Or.inl rfl, q 0 _ ⟨hFt, fun z => absurd z hz, fun _ => ⟨rfl, ⟨by rw [up_nc (by decide)]; exact o2, by rw [up_nc (by decide)]; exact o3⟩⟩⟩⟩
  · have er : pLaw kd vl l j T = fP kd 2 (j + 1) T := by unfold pLaw; rw [if_neg ne]
    rw [er]; exact LO.flt ((Fr.rf.up (by decide)).tr (hF.wk (by decide))) (by decide) (hf T)
end
