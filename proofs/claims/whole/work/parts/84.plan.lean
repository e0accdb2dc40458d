/-! the planner: keepPlan, plan -/
def kpC : List Nat := [87, 92, 95]
def paC : List Nat := [2, 13, 82, 83, 84, 85, 86, 87, 88, 89, 90, 92, 93, 94, 95]
section
variable {E : EN} {T : Int → Int} {A rd : Int}
theorem s_Plan_keepPlan {d : Nat} {σ : Mem} {R : RL} {K : Mem → Prop} (hd : 3 ≤ d) (hT : MT T) (hP : HR σ 2 T) (hRO : RO T A R) (hR : RowC σ 82 (gM T) R) (q : ∀ τ, Fr kpC σ τ → (∀ k, k ∉ [13, 14, 15, 16] → τ 92 k = σ 92 k) → τ 92 13 = wor T R → τ 92 14 = R.length → τ 92 15 = tkn R → τ 92 16 = endV (gM T) R → (∀ i : Int, 0 ≤ i → i < R.length → τ 95 i = 10 * hAt R i + kAt R i) → K τ) : CV E y_Plan_keepPlan d [vr 92] σ K := by
  have w82 : isRow 82 := Or.inr rfl
  have tb := (RV.cnt hT hRO.1).1
  have hl := hR.2.1
  refine c_Plan_keepPlan (b_Plan_keepPlan_0 (by omega) ?_)
  rw [hR.2.2.1]
  refine s_Room_worthOf (by omega) hT hP (by unfold i32; omega) ?_
  rw [wo_row hT hRO.1, hR.1, hR.2.2.1]
  generalize hσ : up (up (up σ 92 13 (wor T R)) 92 14 R.length) 92 15 (tkn R) = σ1
  have f1 : Fr [92] σ σ1 := by rw [← hσ]; exact ((Fr.rf.up (by simp)).up (by simp)).up (by simp)
  have hP1 : HR σ1 2 T := hP.fr (fun c c0 c1 => f1.one (by omega))
  have hR1 : RowC σ1 82 (gM T) R := hR.cel (fun c c0 c1 => f1.one (by omega))
  have a13 : σ1 92 13 = wor T R := by rw [← hσ, up_nk (by decide), up_nk (by decide), up_same]
  have a14 : σ1 92 14 = R.length := by rw [← hσ, up_nk (by decide), up_same]
  have a15 : σ1 92 15 = tkn R := by rw [← hσ, up_same]
  have ak : ∀ k, k ∉ [13, 14, 15, 16] → σ1 92 k = σ 92 k := fun k hk => by
    simp at hk
    rw [← hσ, up_nk (by omega), up_nk (by omega), up_nk (by omega)]
  refine s_Row_end w82 (by omega) (hP1.hp hT).2.2.2.1 (hP1.rb hT) (RV.in (hP1.hp hT) hT hRO.1) (Rb_of hT hRO.1.mem) hR1 (fun τ hF _ => ?_)
  have e92 : τ 92 = σ1 92 := hF 92 (by decide)
  have hR2 := hR1.md hF
  have hFk : Fr kpC σ τ := (f1.wk (by decide)).tr (hF.wk (by decide))
  have loop : ∀ (n : Nat) (i : Int) (υ : Mem), 0 ≤ i → i + n = R.length → Fr [95] (up τ 92 16 (endV (gM T) R)) υ → (∀ p : Int, 0 ≤ p → p < i → υ 95 p = 10 * hAt R p + kAt R p) → Z E y_Plan_keepPlan d 53 [some (vr 92), some (vi i)] [] υ (qv K) := by
    intro n
    induction n with
    | zero =>
      intro i υ i0 hi hF2 hv
      have e82 : υ 82 = τ 82 := by rw [hF2.one (by decide), up_cell (by decide)]
      have g92 : υ 92 = up τ 92 16 (endV (gM T) R) 92 := hF2.one (by decide)
      refine b_Plan_keepPlan_53 ⟨fun _ => q υ ((hFk.up (by decide)).tr (hF2.wk (by decide))) (fun k hk => ?_) ?_ ?_ ?_ ?_ (fun p p0 p1 => hv p p0 (by omega)), fun z => absurd z (by rw [e82, hR2.1]; omega)⟩
      · have hk2 : k ≠ 16 := fun z => hk (by simp [z])
        rw [g92, up_nk hk2, e92]; exact ak k hk
      · rw [g92, up_nk (by decide), e92]; exact a13
      · rw [g92, up_nk (by decide), e92]; exact a14
      · rw [g92, up_nk (by decide), e92]; exact a15
      · rw [g92, up_same]
    | succ n ih =>
      intro i υ i0 hi hF2 hv
      have e82 : υ 82 = τ 82 := by rw [hF2.one (by decide), up_cell (by decide)]
      have ra := hR2.2.2.2.1.at i i0 (by omega)
      have e83 : υ 83 i = kAt R i := by rw [hF2.one (by decide), up_cell (by decide)]; exact ra.1
      have e84 : υ 84 i = hAt R i := by rw [hF2.one (by decide), up_cell (by decide)]; exact ra.2.1
      obtain ⟨y, hy, ky, hyy⟩ := kAt_mem hRO.1.mem i i0 (by omega)
      have y6 := inM6 hT hy
      refine b_Plan_keepPlan_53 ⟨fun z => absurd z (by rw [e82, hR2.1]; omega), fun _ => ⟨fun z => absurd z (by omega), fun _ => ⟨⟨i0, by omega⟩, ?_⟩⟩⟩
      rw [e83, e84, wid (x := 10 * hAt R i) (by omega) (by omega), wid (x := 10 * hAt R i + kAt R i) (by omega) (by omega), wid (x := i + 1) (by omega) (by omega)]
      refine ih (i + 1) _ (by omega) (by omega) (hF2.up (by simp)) (fun p p0 p1 => ?_)
      by_cases e : p = i
      · subst e; rw [up_same]
      · rw [up_nk e]; exact hv p p0 (by omega)
  exact loop R.length 0 _ (by omega) (by omega) Fr.rf (fun p a b => absurd b (by omega))
/-- what plan leaves -/
def Pld (T : Int → Int) (B : RL) (τ : Mem) : Prop := τ 92 13 = wor T B ∧ τ 92 14 = B.length ∧ τ 92 15 = tkn B ∧ τ 92 16 = endV (gM T) B ∧ ∀ i : Int, 0 ≤ i → i < B.length → τ 95 i = 10 * hAt B i + kAt B i
set_option maxHeartbeats 1000000 in
theorem s_Plan_plan {d : Nat} {σ : Mem} {K : Mem → Prop} (hd : 16 ≤ d) (hT : MT T) (hA : 0 ≤ A ∧ A < 8) (hrd : 0 ≤ rd ∧ rd < 64) (hP : HR σ 2 T) (hso : SoonOK σ 2 T) (hpl : PlanOK σ T) (q : ∀ τ B, Fr paC σ τ → (∀ k, k ≠ 18 → τ 2 k = σ 2 k) → SoonOK τ 2 T → PlanOK τ T → IsBest T rd A (T 1) B → Pld T B τ → K τ) : CV E y_Plan_plan d [vr 92, vi rd, vi A] σ K := by
  have w82 : isRow 82 := Or.inr rfl
  have t1 := hT.1
  have hM := Opn.mk hT hrd
  have fresh : Z E y_Plan_plan d 24 [some (vr 92), some (vi rd), some (vi A), none] [] σ (qv K) := by
    refine b_Plan_plan_24 (by omega) ?_
    generalize hσ1 : up (up (up σ 92 10 1) 92 11 rd) 92 12 A = σ1
    have f1 : Fr [92] σ σ1 := by rw [← hσ1]; exact ((Fr.rf.up (by simp)).up (by simp)).up (by simp)
    have a10 : σ1 92 10 = 1 := by rw [← hσ1, up_nk (by decide), up_nk (by decide), up_same]
    have a11 : σ1 92 11 = rd := by rw [← hσ1, up_nk (by decide), up_same]
    have a12 : σ1 92 12 = A := by rw [← hσ1, up_same]
    have p3 : σ1 2 3 = T 4 := by rw [f1.one (by decide)]; exact hP.1.2.2.2.1
    have t4 := hT.2.2.2.1
    refine s_Room_allLetters (Or.inl rfl) (by omega) ?_
    rw [p3]
    generalize hMM : ian (2 ^ (T 4).toNat - 1) (ixo rd (-1)) = M at *
    have f2 : Fr [92] σ (up σ1 92 7 M) := f1.up (by simp)
    have b10 : ∀ k, k ≠ 7 → up σ1 92 7 M 92 k = σ1 92 k := fun k hk => up_nk hk
    have b7 : up σ1 92 7 M 92 7 = M := up_same _ _ _ _
    generalize up σ1 92 7 M = σ2 at *
    refine s_Plan_useHands hT hA (by omega) (hP.fr (fun c c0 c1 => f2.one (by omega))) (hso.fr (by rw [f2.one (by decide)]) (f2.one (by decide))) (fun τ hF hK h2 hPE hS => ?_)
    have c7 : τ 92 7 = M := by rw [hK 7 (by decide) (by decide) (by decide)]; exact b7
    have c0 : τ 2 0 = T 1 := hPE.1.1.1
    rw [c7, c0]
    refine s_Plan_mostWorth (by omega) hT hA hPE hM ⟨by omega, by omega⟩ (fun w hw => ?_)
    have f3 : Fr [92] τ (up (up τ 92 8 w) 92 9 6) := (Fr.rf.up (by simp)).up (by simp)
    have loop : ∀ (c : Nat) (s : Int) (n : Nat) (υ : Mem) (o1 o2 : Option AV), 0 ≤ s → s + c = 64 → Fr [92] τ υ → (∀ k, k ≠ 8 → k ≠ 9 → υ 92 k = τ 92 k) → υ 92 8 = w → υ 92 9 = (n : Int) → n ≤ 6 → (n = 6 ∨ ∃ R, Good T rd A w n R) → (∀ R, CanB T rd A (T 1) R → wor T R = w → tkn R < s → n ≤ R.length) → Z E y_Plan_plan d 86 [some (vr 92), o1, o2, some (vi s)] [] υ (qv K) := by
      intro c
      induction c with
      | zero =>
        intro s n υ o1 o2 s0 hs hFu hKu u8 u9 hn hex hall
        refine b_Plan_plan_86 (a1 := 0) (a2 := 0) (by omega) ⟨fun _ => ?_, fun z => absurd z (by omega)⟩
        have hall2 : ∀ R, CanB T rd A (T 1) R → wor T R = w → n ≤ R.length := fun R hR eR => hall R hR eR (by have := (RV.cnt hT hR.1.1).1; omega)
        have hex2 : ∃ R, Good T rd A w n R := by
          rcases hex with e | e
          · obtain ⟨R0, r1, r2⟩ := hw.1
            have a := hall2 R0 r1 r2
            have b := RV.len hT r1.1.1
            exact ⟨R0, r1, r2, by omega⟩
          · exact e
        refine s_Row_clear (g := gM T) w82 (by omega) (fun τ1 hF1 hR1 => ?_)
        have hPSu : PS T A M w n υ := ⟨hPE.fr (hFu.wk (by decide)) (hKu 4 (by decide) (by decide)), by rw [hKu 7 (by decide) (by decide)]; exact c7, u8, u9⟩
        have hPS := hPSu.fr hF1
        refine s_Plan_spell hT hA hM hn 6 (R := []) (by simp) (by omega) (by simp) hPS ⟨trivial, fun x hx => by simp at hx⟩ (fun x hx => by simp at hx) hR1 (by simp) (fun e0 => ?_) (fun τ2 Q hF2 hR2 gQ _ hlex => ?_) (fun τ2 hF2 hR2 hno => ?_)
        · obtain ⟨R0, r0⟩ := hex2
          have : R0 = [] := List.eq_nil_of_length_eq_zero (by have := r0.2.2; simp at e0; omega)
          rw [this] at r0; exact r0
        · have hPS2 := hPS.fr hF2
          refine s_Plan_keepPlan (by omega) hT hPS2.1.1 gQ.1.1 hR2 (fun τ3 hF3 hK3 k13 k14 k15 k16 kc => ?_)
          have best : IsBest T rd A (T 1) Q := by
            refine ⟨gQ.1, fun R2 hR2 => ?_⟩
            have le := hw.2 R2 hR2
            by_cases ew : wor T R2 = w
            · have l2 := hall2 R2 hR2 ew
              rcases Nat.lt_or_ge n R2.length with z | z
              · exact Or.inr ⟨by rw [ew]; exact gQ.2.1.symm, Or.inl (by rw [gQ.2.2]; exact z)⟩
              · have g2 : Good T rd A w n (R2 ++ []) := by rw [List.append_nil]; exact ⟨hR2, ew, by omega⟩
                have := hlex R2 g2
                rw [List.append_nil] at this
                exact Or.inr ⟨by rw [ew]; exact gQ.2.1.symm, Or.inr ⟨by rw [gQ.2.2]; omega, this⟩⟩
            · exact Or.inl (by rw [gQ.2.1]; omega)
          have all : ∀ k, k = 10 ∨ k = 11 ∨ k = 12 → τ3 92 k = σ1 92 k := fun k hk => by
            rw [hK3 k (by simp; omega), hF2 92 (row82 (by omega)), hF1 92 (row82 (by omega)), hKu k (by omega) (by omega), hK k (by omega) (by omega) (by omega), b10 k (by omega)]
          have pd : Pld T Q τ3 := ⟨k13, k14, k15, k16, kc⟩
          have e2 : τ3 2 = τ 2 := by rw [hF3 2 (by decide), hF2 2 (row82 (by omega)), hF1 2 (row82 (by omega)), hFu.one (by decide)]
          have e13 : τ3 13 = τ 13 := by rw [hF3 13 (by decide), hF2 13 (row82 (by omega)), hF1 13 (row82 (by omega)), hFu.one (by decide)]
          refine q τ3 Q ((((((f2.wk (by decide)).tr (hF.wk (by decide))).tr (hFu.wk (by decide))).tr (hF1.wk (by decide))).tr (hF2.wk (by decide))).tr (hF3.wk (by decide))) (fun k hk => by rw [e2, h2 k hk, f2.one (by decide)]) (hS.fr (by rw [e2]) e13) (fun _ => ⟨Q, ?_, pd⟩) best pd
          rw [all 11 (by omega), all 12 (by omega), a11, a12]; exact best
        · obtain ⟨R0, r0⟩ := hex2
          exact (hno R0 (by rw [List.append_nil]; exact r0)).elim
      | succ c ih =>
        intro s n υ o1 o2 s0 hs hFu hKu u8 u9 hn hex hall
        have hPEu : PE T A 64 υ := hPE.fr (hFu.wk (by decide)) (hKu 4 (by decide) (by decide))
        refine b_Plan_plan_86 (a1 := 0) (a2 := 0) (by omega) ⟨fun z => absurd z (by omega), fun _ => ?_⟩
        rw [wid (x := s + 1) (by omega) (by omega)]
        refine s_Plan_hasWantedWorth (by omega) hT hA hPEu (by rw [hKu 7 (by decide) (by decide)]; exact c7) u8 hM ⟨s0, by omega⟩ (fun hyes => ⟨fun z => absurd z (by decide), fun _ => s_bitCount (s_Math_min ?_)⟩) (fun hno => ⟨fun _ => ?_, fun z => absurd rfl z⟩)
        · obtain ⟨R1, r1, r2, r3⟩ := hyes
          have cn := (RV.cnt hT r1.1.1).2
          have ln := RV.len hT r1.1.1
          have bcs : bcE s = R1.length := by rw [bc6 ⟨s0, by omega⟩, ← r2, cn]
          rw [bcs, u9]
          refine ih (s + 1) (min n R1.length) (up υ 92 9 (min (n : Int) R1.length)) _ _ (by omega) (by omega) (hFu.up (by simp)) (fun k k8 k9 => by rw [up_nk k9]; exact hKu k k8 k9) (by rw [up_nk (by decide)]; exact u8) (by rw [up_same]; omega) (by omega) ?_ (fun R hR eR hlt => ?_)
          · rcases Nat.le_total n R1.length with z | z
            · rw [Nat.min_eq_left z]; exact hex
            · rw [Nat.min_eq_right z]; exact Or.inr ⟨R1, r1, r3, rfl⟩
          · by_cases e : tkn R = s
            · have c2 := (RV.cnt hT hR.1.1).2
              rw [e, ← r2, cn] at c2
              omega
            · have := hall R hR eR (by omega); omega
        · refine ih (s + 1) n υ _ _ (by omega) (by omega) hFu hKu u8 u9 hn hex (fun R hR eR hlt => ?_)
          by_cases e : tkn R = s
          · exact (hno R hR e eR).elim
          · exact hall R hR eR (by omega)
    refine loop 64 0 6 _ _ _ (by omega) (by omega) f3 (fun k k8 k9 => by rw [up_nk k9, up_nk k8]) (by rw [up_nk (by decide), up_same]) (by rw [up_same]; rfl) (by omega) (Or.inl rfl) (fun R hR _ hlt => by have := (RV.cnt hT hR.1.1).1; omega)
  refine c_Plan_plan (b_Plan_plan_0 ⟨fun _ => fresh, fun hp => ⟨fun _ => fresh, fun e1 => ⟨fun _ => fresh, fun e2 => ?_⟩⟩⟩)
  obtain ⟨B, b1, b2⟩ := hpl hp
  rw [e1, e2] at b1
  exact q σ B Fr.rf (fun _ _ => rfl) hso hpl b1 b2
end
theorem II.pla {σ τ : Mem} (h : II σ) (hF : Fr paC σ τ) (h2 : ∀ k, k ≠ 18 → τ 2 k = σ 2 k) (hS : SoonOK τ 2 (σ 116)) (hPl : PlanOK τ (σ 116)) : II τ := by
  have e : ∀ c, c ∉ paC → τ c = σ c := hF
  have e116 : τ 116 = σ 116 := e 116 (by decide)
  obtain ⟨a, b, c, d, f, g, i, j, l, m⟩ := h
  have et : ∀ c, 96 ≤ c → τ c = σ c := fun c c0 => e c (by simp [paC]; omega)
  have em : ∀ c, 14 ≤ c → c ≤ 81 → τ c = σ c := fun c c0 c1 => e c (by simp [paC]; omega)
  refine ⟨by rw [e116]; exact a, by rw [e116]; exact b.fr18 h2 (fun c c0 c1 => e c (by simp [paC]; omega)), by rw [e116]; exact hS, ?_, f.fr (fun c c0 c1 _ => em c (by omega) (by omega)) (by rw [e116]) (fun k _ _ => by rw [e116]), g.fr (fun c c0 c1 => et c (by omega)) (et _ (by decide)) (et _ (by decide)) (et _ (by decide)), i.fr (fun c c0 c1 => em c (by omega) (by omega)) (et _ (by decide)) (et _ (by decide)) (et _ (by decide)) (et _ (by decide)) (fun k _ => by rw [e116]), ?_, by rw [e116]; exact hPl, by rw [et 115 (by decide)]; exact m⟩
  · rw [e116]; exact d.fr (fun k _ _ => by rw [em 50 (by decide) (by decide)]) (fun _ _ _ => rfl)
  · unfold TapeOK at j ⊢
    rw [e 0 (by decide), e 1 (by decide), et 118 (by decide), et 115 (by decide)]; exact j
