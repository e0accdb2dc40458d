/-! the planner: fillSoonest, useHands -/
theorem IsSoon.nn {T : Int → Int} (hT : MT T) {A S v : Int} (h : IsSoon T A S v) : 0 ≤ v := by
  rcases h.2.1 with e | ⟨R, a, b, c⟩
  · omega
  · rw [← c]; exact endV_nn (Rb_of hT a.1.mem)
theorem PE.put {T : Int → Int} (hT : MT T) {A S v : Int} {σ : Mem} (h : PE T A S σ) (hv : IsSoon T A S v) : PE T A (S + 1) (up σ 13 (64 * A + S) v) := by
  obtain ⟨a, b, c, e⟩ := h
  refine ⟨a.fr (fun c c0 c1 => up_cell (by omega)), by rw [up_cell (by decide)]; exact b, ?_, fun S2 s0 s1 => ?_⟩
  · unfold PQ at c ⊢; rw [up_cell (by decide), up_cell (by decide)]; exact c
  · by_cases q : S2 = S
    · subst q; rw [up_same]; exact ⟨hv, hv.nn hT⟩
    · rw [up_nk (by omega)]; exact e S2 s0 (by omega)
theorem subL_1 : ∀ (L : Fin 7) (s : Fin 64), (ian (s.val : Int) (ixo (2 ^ L.val - 1) (-1)) = 0) ↔ ∀ j : Fin 6, bt (s.val : Int) (j.val : Int) = 1 → (j.val : Int) < (L.val : Int) := by decide +kernel
theorem subL {L s : Int} (hL : 0 ≤ L ∧ L ≤ 6) (hs : 0 ≤ s ∧ s < 64) : (ian s (ixo (2 ^ L.toNat - 1) (-1)) = 0) ↔ ∀ j : Int, 0 ≤ j → j < 6 → bt s j = 1 → j < L := by
  have := subL_1 ⟨L.toNat, by omega⟩ ⟨s.toNat, by omega⟩
  simp only [show ((s.toNat : Nat) : Int) = s by omega, show ((L.toNat : Nat) : Int) = L by omega] at this
  rw [this]
  refine ⟨fun h j j0 j1 jb => ?_, fun h j jb => h j.val (by omega) (by have := j.isLt; omega) jb⟩
  have := h ⟨j.toNat, by omega⟩
  simp only [show ((j.toNat : Nat) : Int) = j by omega] at this
  exact this jb
theorem no_row {T : Int → Int} (hT : MT T) {A S : Int} (hS : 0 ≤ S ∧ S < 64) (h : ¬ ian S (ixo (2 ^ (T 4).toNat - 1) (-1)) = 0) {R : RL} (hR : RO T A R) (e : tkn R = S) : False := by
  refine h ((subL hT.2.2.2.1 hS).mpr (fun j j0 j1 jb => ?_))
  rw [← e] at jb
  obtain ⟨x, x1, x2⟩ := (tkn_bt (in63.of hT hR.1) ⟨j0, j1⟩).mp jb
  have := (hR.1.mem x x1).1.2
  omega
theorem soon_srch {T : Int → Int} (hT : MT T) {A S : Int} {σ τ : Mem} (h5 : σ 92 5 = 1000) (h : SI T A S σ τ (fun Q => ∃ L, Q = L ++ [])) (hf : ∀ R, RO T A R → tkn R = S → σ 92 6 ≤ endV (gM T) R) : IsSoon T A S (τ 92 5) := by
  obtain ⟨a1, a3, a4⟩ := h
  refine ⟨by omega, ?_, fun R hR eR => ?_⟩
  · rcases a3 with z | ⟨Q, q1, q2, q3⟩
    · exact Or.inl (by omega)
    · exact Or.inr ⟨Q, q1, q2, q3⟩
  · obtain ⟨P, p1, p2, p3, p4⟩ := canon hT _ R hR (Nat.le_refl _)
    rcases a4 P p1 (p2.trans eR) p4 ⟨P, by rw [List.append_nil]⟩ with z | z
    · omega
    · have := hf R hR eR; omega
def fiC : List Nat := [13, 82, 83, 84, 85, 86, 87, 88, 89, 90, 92]
section
variable {E : EN} {T : Int → Int}
theorem s_Plan_fillSoonest (hT : MT T) {A : Int} (hA : 0 ≤ A ∧ A < 8) {d : Nat} {σ : Mem} {K : Mem → Prop} (hd : 12 ≤ d) (hP : HR σ 2 T) (h4 : σ 92 4 = 64 * A) (hq : PQ σ T A) (q : ∀ τ, Fr fiC σ τ → (∀ k, k ≠ 5 → k ≠ 6 → τ 92 k = σ 92 k) → (∀ i, ¬ (64 * A ≤ i ∧ i < 64 * A + 64) → τ 13 i = σ 13 i) → PE T A 64 τ → K τ) : CV E y_Plan_fillSoonest d [vr 92] σ K := by
  have w82 : isRow 82 := Or.inr rfl
  have t4 := hT.2.2.2.1
  refine c_Plan_fillSoonest (b_Plan_fillSoonest_0 ⟨by omega, ?_⟩)
  rw [h4]
  have loop : ∀ (n : Nat) (s : Int) (τ : Mem), 1 ≤ s → s + n = 64 → Fr fiC σ τ → (∀ k, k ≠ 5 → k ≠ 6 → τ 92 k = σ 92 k) → (∀ i, ¬ (64 * A ≤ i ∧ i < 64 * A + 64) → τ 13 i = σ 13 i) → PE T A s τ → Z E y_Plan_fillSoonest d 15 [some (vr 92), some (vi s)] [] τ (qv K) := by
    intro n
    induction n with
    | zero =>
      intro s τ s0 hs hF hK hI hPE
      rw [show s = 64 by omega] at hPE ⊢
      exact b_Plan_fillSoonest_15 (by omega) ⟨fun _ => q τ hF hK hI hPE, fun z => absurd z (by omega)⟩
    | succ n ih =>
      intro s τ s0 hs hF hK hI hPE
      have p3 : τ 2 3 = T 4 := hPE.1.1.2.2.2.1
      have hS : 0 ≤ s ∧ s < 64 := ⟨by omega, by omega⟩
      have nx : ∀ (τ2 : Mem) (v : Int), Fr fiC τ τ2 → (∀ k, k ≠ 5 → k ≠ 6 → τ2 92 k = τ 92 k) → (∀ i, τ2 13 i = τ 13 i) → PE T A s τ2 → IsSoon T A s v → Z E y_Plan_fillSoonest d 15 [some (vr 92), some (vi (w32 (s + 1)))] [] (up τ2 13 (w32 (τ2 92 4 + s)) v) (qv K) := by
        intro τ2 v hF2 hK2 hI2 hP2 hv
        rw [wid (x := s + 1) (by omega) (by omega), hP2.2.1, wid (x := 64 * A + s) (by omega) (by omega)]
        refine ih (s + 1) _ (by omega) (by omega) ((hF.tr hF2).up (by decide)) (fun k k5 k6 => ?_) (fun i hi => ?_) (hP2.put hT hv)
        · rw [up_nc (by decide), hK2 k k5 k6]; exact hK k k5 k6
        · rw [up_nk (by omega), hI2 i]; exact hI i hi
      have go : ∀ v : Int, 0 ≤ v → v ≤ 1000 → (∀ R, RO T A R → tkn R = s → v ≤ endV (gM T) R) → (v < 1000 → ∀ j : Int, 0 ≤ j → j < 6 → bt s j = 1 → j < T 4) → Z E y_Plan_fillSoonest d 47 [some (vr 92), some (vi s)] [vi v, vr 92] τ (qv K) := by
        intro v v0 v1 hv hj
        have hF0 : Fr plC τ (up (up τ 92 6 v) 92 5 1000) := (Fr.rf.up (by decide)).up (by decide)
        have hP0 : PE T A s (up (up τ 92 6 v) 92 5 1000) := hPE.fr hF0 (by rw [up_nk (by decide), up_nk (by decide)])
        have hK0 : ∀ k, k ≠ 5 → k ≠ 6 → (up (up τ 92 6 v) 92 5 1000) 92 k = τ 92 k := fun k k5 k6 => by rw [up_nk k5, up_nk k6]
        refine b_Plan_fillSoonest_47 (by omega) ⟨fun ge => ⟨?_, ?_⟩, fun lt => ?_⟩
        · rw [hPE.2.1, wid (x := 64 * A + s) (by omega) (by omega)]; omega
        · have := nx (up (up τ 92 6 v) 92 5 1000) 1000 (hF0.wk (by decide)) hK0 (fun i => by rw [up_nc (by decide), up_nc (by decide)]) hP0 ⟨Int.le_refl _, Or.inl rfl, fun R hR eR => by have := hv R hR eR; omega⟩
          rw [hK0 4 (by decide) (by decide)] at this
          exact this
        · refine s_Row_clear (g := gM T) w82 (by omega) (fun τ1 hF1 hR1 => ?_)
          have e92 : τ1 92 = (up (up τ 92 6 v) 92 5 1000) 92 := hF1 92 (row82 (by omega))
          have hP1 := hP0.fr (Fr82 hF1) (by rw [e92])
          have f5 : τ1 92 5 = 1000 := by rw [e92, up_same]
          have f6 : τ1 92 6 = v := by rw [e92, up_nk (by decide), up_same]
          refine s_Plan_search hT hA hS (hj lt) 6 (R := []) (by simp) (by omega) (by simp) hP1 ⟨trivial, fun x hx => by simp at hx⟩ hR1 hS (Int.le_refl _) (fun j j0 j1 => ?_) (fun j j0 j1 jb => ?_) ⟨by omega, by omega⟩ (fun τ2 hF2 hK2 hR2 hS2 => ⟨?_, ?_⟩)
          · have e0 : bt (tkn []) j = 0 := bt0 j
            rw [e0]
            rcases bt_01 s j with z | z
            · rw [z, if_neg (fun c => by omega)]
            · rw [z, if_pos ⟨rfl, rfl⟩]
          · have e0 : bt (tkn []) j = 0 := bt0 j
            rw [e0] at jb; omega
          · rw [hK2 4 (by decide), hP1.2.1, wid (x := 64 * A + s) (by omega) (by omega)]; omega
          · refine nx τ2 _ ((hF0.tr ((Fr82 hF1).tr hF2)).wk (by decide)) (fun k k5 k6 => ?_) (fun i => ?_) (hP1.fr hF2 (hK2 4 (by decide))) (soon_srch hT f5 hS2 (fun R hR eR => by rw [f6]; exact hv R hR eR))
            · rw [hK2 k k5, e92]; exact hK0 k k5 k6
            · rw [hF2 13 (by decide), hF1 13 (row82 (by omega)), up_nc (by decide), up_nc (by decide)]
      refine b_Plan_fillSoonest_15 (by omega) ⟨fun z => absurd z (by omega), fun _ => s_Room_allLetters (Or.inl rfl) (by omega) ?_⟩
      rw [p3]
      refine ⟨fun ne => go 1000 (by omega) (by omega) (fun R hR eR => (no_row hT hS ne hR eR).elim) (fun z => absurd z (by omega)), fun e => ?_⟩
      refine s_Plan_floorOf (by omega) hT hPE.1 hA hPE.2.1 hS hPE.2.2.2 (fun x x0 x1 hx => go x x0 x1 hx (fun _ => (subL t4 hS).mp e))
  have hP0 : PE T A 0 σ := ⟨hP, h4, hq, fun S2 a b => absurd b (by omega)⟩
  have hz : IsSoon T A 0 0 := ⟨by omega, Or.inr ⟨[], ⟨trivial, fun x hx => by simp at hx⟩, rfl, endV_nil _⟩, fun R hR _ => endV_nn (Rb_of hT hR.1.mem)⟩
  have h1 := hP0.put hT hz
  rw [show 64 * A + 0 = 64 * A by omega] at h1
  refine loop 63 1 _ (by omega) (by omega) (Fr.rf.up (by decide)) (fun k _ _ => up_nc (by decide)) (fun i hi => up_nk (by omega)) h1
theorem an7 : ∀ a : Fin 8, ian (a.val : Int) 7 = (a.val : Int) := by decide +kernel
theorem an8 : ∀ (a b : Fin 8), (0 ≤ ian (a.val : Int) (b.val : Int) ∧ ian (a.val : Int) (b.val : Int) < 8) ∧ ∀ h : Fin 3, (bt (ian (a.val : Int) (b.val : Int)) (h.val : Int) = 1 ↔ bt (a.val : Int) (h.val : Int) = 1 ∧ bt (b.val : Int) (h.val : Int) = 1) := by decide +kernel
theorem an83 {a b : Int} (ha : 0 ≤ a ∧ a < 8) (hb : 0 ≤ b ∧ b < 8) : (0 ≤ ian a b ∧ ian a b < 8) ∧ ∀ h : Int, 0 ≤ h → h < 3 → (bt (ian a b) h = 1 ↔ bt a h = 1 ∧ bt b h = 1) := by
  have := an8 ⟨a.toNat, by omega⟩ ⟨b.toNat, by omega⟩
  simp only [show ((a.toNat : Nat) : Int) = a by omega, show ((b.toNat : Nat) : Int) = b by omega] at this
  refine ⟨this.1, fun h h0 h1 => ?_⟩
  have := this.2 ⟨h.toNat, by omega⟩
  simp only [show ((h.toNat : Nat) : Int) = h by omega] at this
  exact this
/-- of one letter what useHands leaves -/
def PQk (σ : Mem) (T : Int → Int) (A k : Int) : Prop := (0 ≤ σ 93 k ∧ σ 93 k < 8) ∧ (0 ≤ σ 94 k ∧ σ 94 k ≤ 1000) ∧ ∀ h : Int, 0 ≤ h → h < T 2 → (bt (σ 93 k) h = 1 ↔ bt A h = 1 ∧ bt (T (27 + h)) (T (43 + k)) = 1) ∧ (bt (σ 93 k) h = 1 → σ 94 k ≤ cpF T k h)
def uhC : List Nat := [2, 13, 82, 83, 84, 85, 86, 87, 88, 89, 90, 92, 93, 94]
theorem s_Plan_useHands (hT : MT T) {A : Int} (hA : 0 ≤ A ∧ A < 8) {d : Nat} {σ : Mem} {K : Mem → Prop} (hd : 13 ≤ d) (hP : HR σ 2 T) (hso : SoonOK σ 2 T) (q : ∀ τ, Fr uhC σ τ → (∀ k, k ≠ 4 → k ≠ 5 → k ≠ 6 → τ 92 k = σ 92 k) → (∀ k, k ≠ 18 → τ 2 k = σ 2 k) → PE T A 64 τ → SoonOK τ 2 T → K τ) : CV E y_Plan_useHands d [vr 92, vi A] σ K := by
  have t4 := hT.2.2.2.1
  have t2 := hT.2.1
  have a7 : ian A 7 = A := by
    have := an7 ⟨A.toNat, by omega⟩
    simp only [show ((A.toNat : Nat) : Int) = A by omega] at this
    exact this
  refine c_Plan_useHands (b_Plan_useHands_0 ?_)
  rw [a7, wid (x := A * 64) (by omega) (by omega), Int.mul_comm A 64]
  have hF0 : Fr [92] σ (up σ 92 4 (64 * A)) := Fr.rf.up (by simp)
  generalize hσ0 : up σ 92 4 (64 * A) = σ0 at *
  have k0 : ∀ k, k ≠ 4 → σ0 92 k = σ 92 k := fun k hk => by rw [← hσ0, up_nk hk]
  have k4 : σ0 92 4 = 64 * A := by rw [← hσ0, up_same]
  have hP0 : HR σ0 2 T := hP.fr (fun c c0 c1 => hF0.one (by omega))
  have hs0 : SoonOK σ0 2 T := hso.fr (by rw [hF0.one (by decide)]) (hF0.one (by decide))
  have p3 : σ0 2 3 = T 4 := hP0.1.2.2.2.1
  have p1 : σ0 2 1 = T 2 := hP0.1.2.1
  have hB := hP0.rb hT
  have hp := hP0.hp hT
  have fin : ∀ (τ : Mem) (o1 o3 o4 : Option AV), Fr [93, 94] σ0 τ → PQ τ T A → Z E y_Plan_useHands d 122 [some (vr 92), o1, some (vi A), o3, o4] [] τ (qv K) := by
    intro τ o1 o3 o4 hF hQ
    have e2 : τ 2 = σ0 2 := hF 2 (by decide)
    have e92 : τ 92 = σ0 92 := hF 92 (by decide)
    have e13 : τ 13 = σ0 13 := hF 13 (by decide)
    have hPt : HR τ 2 T := hP0.fr (fun c c0 c1 => hF c (by simp; omega))
    have hst : SoonOK τ 2 T := hs0.fr (by rw [e2]) e13
    refine b_Plan_useHands_122 (a1 := A) (by omega) ⟨fun z => ?_, fun z => ?_⟩
    · rw [bit_eqU (by omega)] at z
      have b1 : bt (τ 2 18) A = 1 := by rcases bt_01 (τ 2 18) A with y | y; exact absurd y z; exact y
      refine q τ ((hF0.wk (by decide)).tr (hF.wk (by decide))) (fun k a b c => by rw [e92]; exact k0 k a) (fun k _ => by rw [e2, hF0.one (by decide)]) ⟨hPt, by rw [e92]; exact k4, hQ, fun S2 s0 s1 => ?_⟩ hst
      have := hst A S2 hA.1 hA.2 b1 s0 s1
      exact ⟨this, this.nn hT⟩
    · refine s_Plan_fillSoonest hT hA (by omega) hPt (by rw [e92]; exact k4) hQ (fun τ2 hF2 hK2 hI2 hP2 => ?_)
      have g2 : τ2 2 = τ 2 := hF2 2 (by decide)
      refine q _ ((((hF0.wk (by decide)).tr (hF.wk (by decide))).tr (hF2.wk (by decide))).up (by decide)) (fun k a b c => ?_) (fun k hk => ?_) ⟨?_, ?_, ?_, fun S2 s0 s1 => ?_⟩ (fun A2 S2 a0 a1 ab s0 s1 => ?_)
      · rw [up_nc (by decide), hK2 k b c, e92]; exact k0 k a
      · rw [up_nk hk, g2, e2, hF0.one (by decide)]
      · exact hP2.1.fr18 (fun k hk => up_nk hk) (fun c c0 c1 => up_cell (by omega))
      · rw [up_nc (by decide)]; exact hP2.2.1
      · have := hP2.2.2.1
        unfold PQ at this ⊢
        rw [up_cell (by decide), up_cell (by decide)]; exact this
      · rw [up_nc (by decide)]; exact hP2.2.2.2 S2 s0 s1
      · rw [up_same, bset (by omega) (by omega)] at ab
        show IsSoon T A2 S2 (up τ2 2 18 _ 13 (64 * A2 + S2))
        rw [up_nc (by decide)]
        by_cases e : A2 = A
        · rw [e]; exact (hP2.2.2.2 S2 s0 s1).1
        · rw [if_neg e, g2] at ab
          rw [hI2 _ (by omega)]
          exact hst A2 S2 a0 a1 ab s0 s1
  have outer : ∀ (n : Nat) (k : Int) (τ : Mem) (o1 o4 : Option AV), 0 ≤ k → k + n = T 4 → Fr [93, 94] σ0 τ → (∀ i, 0 ≤ i → i < k → PQk τ T A i) → Z E y_Plan_useHands d 15 [some (vr 92), o1, some (vi A), some (vi k), o4] [] τ (qv K) := by
    intro n
    induction n with
    | zero =>
      intro k τ o1 o4 hk0 hk hF hQ
      have e2 : τ 2 = σ0 2 := hF 2 (by decide)
      exact b_Plan_useHands_15 (a1 := A) (by omega) ⟨fun _ => fin τ _ _ _ hF (fun i i0 i1 => hQ i i0 (by omega)), fun z => absurd z (by rw [e2]; omega)⟩
    | succ n iho =>
      intro k τ o1 o4 hk0 hk hF hQ
      have e2 : τ 2 = σ0 2 := hF 2 (by decide)
      have r10 := (hp.2.2.2.2 k hk0 (by omega)).2
      have e12 : τ 12 = σ0 12 := hF 12 (by decide)
      have an := an83 r10.1 hA
      refine b_Plan_useHands_15 (a1 := A) (by omega) ⟨fun z => absurd z (by rw [e2]; omega), fun _ => ⟨fun z => absurd z (by omega), fun _ => s_Room_readersOf (by omega) (Or.inl rfl) (by rw [e2]; omega) ⟨hk0, by rw [e2]; omega⟩ ⟨⟨hk0, by omega⟩, ?_⟩⟩⟩
      have e12k : τ (2 + 10) k = σ0 12 k := by rw [← e12]
      rw [e12k]
      have inner : ∀ (n : Nat) (h : Int) (τ : Mem), 0 ≤ h → h + n = T 2 → Fr [93, 94] σ0 τ → (∀ i, 0 ≤ i → i < k → PQk τ T A i) → τ 93 k = ian (σ0 12 k) A → (0 ≤ τ 94 k ∧ τ 94 k ≤ 1000) → (∀ i : Int, 0 ≤ i → i < h → bt (τ 93 k) i = 1 → τ 94 k ≤ cpF T k i) → Z E y_Plan_useHands d 59 [some (vr 92), o1, some (vi A), some (vi k), some (vi h)] [] τ (qv K) := by
        intro n
        induction n with
        | zero =>
          intro h τ h0 hh hF hQ e93 b94 hm
          have e2 : τ 2 = σ0 2 := hF 2 (by decide)
          refine b_Plan_useHands_59 (a1 := A) (by omega) ⟨fun _ => ?_, fun z => absurd z (by rw [e2]; omega)⟩
          rw [wid (x := k + 1) (by omega) (by omega)]
          refine iho (k + 1) τ _ _ (by omega) (by omega) hF (fun i i0 i1 => ?_)
          by_cases e : i = k
          · rw [e]
            refine ⟨by rw [e93]; exact an.1, b94, fun y y0 y1 => ⟨?_, hm y y0 (by omega)⟩⟩
            rw [e93, an.2 y y0 (by omega), r10.2 y y0 y1]
            exact ⟨fun z => ⟨z.2, z.1⟩, fun z => ⟨z.2, z.1⟩⟩
          · exact hQ i i0 (by omega)
        | succ n ihi =>
          intro h τ h0 hh hF hQ e93 b94 hm
          have e2 : τ 2 = σ0 2 := hF 2 (by decide)
          refine b_Plan_useHands_59 (a1 := A) (by omega) ⟨fun z => absurd z (by rw [e2]; omega), fun _ => ⟨⟨hk0, by omega⟩, ?_⟩⟩
          rw [bit_eqU (by omega), wid (x := h + 1) (by omega) (by omega)]
          refine ⟨fun z => ihi (h + 1) τ (by omega) (by omega) hF hQ e93 b94 (fun i i0 i1 ib => ?_), fun z => ?_⟩
          · by_cases e : i = h
            · rw [e, z] at ib; exact absurd ib (by decide)
            · exact hm i i0 (by omega) ib
          · refine s_Room_copyTime (by omega) (Or.inl rfl) (by unfold RB at hB ⊢; rw [e2]; exact hB) ⟨hk0, by rw [e2]; omega⟩ ⟨h0, by rw [e2]; omega⟩ (s_Math_min ?_)
            have e11 : τ (2 + 9) (3 * k + h) = cpF T k h := by
              rw [hF (2 + 9) (by decide)]; exact hp.2.2.2.1.2 k h hk0 (by omega) h0 (by omega)
            have gb := (gM_b hT (x := (k, h)) ⟨hk0, by show k < T 4; omega⟩ ⟨h0, by show h < T 2; omega⟩).2.2
            have gc : (gM T).2.2 k h = cpF T k h := rfl
            rw [e11]
            change 0 ≤ (gM T).2.2 k h ∧ (gM T).2.2 k h ≤ 999 at gb
            rw [gc] at gb
            refine ihi (h + 1) _ (by omega) (by omega) (hF.up (by decide)) (fun i i0 i1 => ?_) ?_ ?_ (fun i i0 i1 ib => ?_)
            · have := hQ i i0 i1
              unfold PQk at this ⊢
              rw [up_nc (by decide), up_nk (by omega)]; exact this
            · rw [up_nc (by decide)]; exact e93
            · rw [up_same]; omega
            · rw [up_same]
              rw [up_nc (by decide)] at ib
              by_cases e : i = h
              · rw [e]; omega
              · have := hm i i0 (by omega) ib; omega
      refine inner (T 2).toNat 0 _ (by omega) (by omega) ((hF.up (by decide)).up (by decide)) (fun i i0 i1 => ?_) ?_ ?_ (fun i i0 i1 => absurd i1 (by omega))
      · have := hQ i i0 i1
        unfold PQk at this ⊢
        rw [up_nc (by decide), up_nk (by omega), up_nk (by omega), up_nc (by decide)]; exact this
      · rw [up_nc (by decide), up_same]
      · rw [up_same]; omega
  exact outer (T 4).toNat 0 σ0 _ _ (by omega) (by omega) Fr.rf (fun i i0 i1 => absurd i1 (by omega))
end
