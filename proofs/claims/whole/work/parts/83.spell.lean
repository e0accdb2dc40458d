/-! the planner: canBeWanted, spell -/
/-- rows that have what is wanted -/
def Good (T : Int → Int) (rd A w : Int) (n : Nat) (Q : RL) : Prop := CanB T rd A (T 1) Q ∧ wor T Q = w ∧ Q.length = n
def PS (T : Int → Int) (A M w : Int) (n : Nat) (σ : Mem) : Prop := PE T A 64 σ ∧ σ 92 7 = M ∧ σ 92 8 = w ∧ σ 92 9 = (n : Int)
theorem PS.fr {T : Int → Int} {A M w : Int} {n : Nat} {σ τ : Mem} (h : PS T A M w n σ) (hF : Fr (rowS 82) σ τ) : PS T A M w n τ := by
  have e : τ 92 = σ 92 := hF 92 (row82 (by omega))
  exact ⟨h.1.fr (Fr82 hF) (by rw [e]), by rw [e]; exact h.2.1, by rw [e]; exact h.2.2.1, by rw [e]; exact h.2.2.2⟩
theorem Fr87r {σ τ : Mem} (h : Fr [87] σ τ) : Fr (rowS 82) σ τ := h.wk (by decide)
theorem sbc_1 : ∀ (a b : Fin 64), ian (a.val : Int) (ixo (b.val : Int) (-1)) = 0 → (a.val : Int) ≤ (b.val : Int) ∧ (cnt6 (a.val : Int) = cnt6 (b.val : Int) → (a.val : Int) = (b.val : Int)) := by decide +kernel
theorem sbc {a b : Int} (ha : 0 ≤ a ∧ a < 64) (hb : 0 ≤ b ∧ b < 64) (h : ian a (ixo b (-1)) = 0) : a ≤ b ∧ (cnt6 a = cnt6 b → a = b) := by
  have := sbc_1 ⟨a.toNat, by omega⟩ ⟨b.toNat, by omega⟩
  simp only [show ((a.toNat : Nat) : Int) = a by omega, show ((b.toNat : Nat) : Int) = b by omega] at this
  exact this h
theorem sbz_1 : ∀ (a : Fin 64), ian (a.val : Int) (ixo (a.val : Int) (-1)) = 0 := by decide +kernel
theorem sbz {a : Int} (ha : 0 ≤ a ∧ a < 64) : ian a (ixo a (-1)) = 0 := by
  have := sbz_1 ⟨a.toNat, by omega⟩
  simp only [show ((a.toNat : Nat) : Int) = a by omega] at this
  exact this
theorem tk_app {T : Int → Int} (hT : MT T) {L R : RL} (h : RV T (L ++ R)) (hR : RV T R) : ian (tkn R) (ixo (tkn (L ++ R)) (-1)) = 0 := by
  have i := in63.of hT h
  have i2 := in63.of hT hR
  refine (sub6 (RV.cnt hT hR).1 (RV.cnt hT h).1).mpr (fun j j0 j1 jb => ?_)
  obtain ⟨x, x1, x2⟩ := (tkn_bt i2 ⟨j0, j1⟩).mp jb
  exact (tkn_bt i ⟨j0, j1⟩).mpr ⟨x, List.mem_append_right _ x1, x2⟩
section
variable {E : EN} {T : Int → Int} {A M w rd : Int} {n : Nat}
theorem s_Plan_canBeWanted {d : Nat} {σ : Mem} {R : RL} {K : Int → Mem → Prop} (hd : 4 ≤ d) (hT : MT T) (hA : 0 ≤ A ∧ A < 8) (hP : PS T A M w n σ) (hM : Opn T rd M) (hRO : RO T A R) (hun : ∀ x ∈ R, bt rd x.1 = 0) (hR : RowC σ 82 (gM T) R) (k1 : ∀ τ, Fr (rowS 82) σ τ → RowC τ 82 (gM T) R → (R.length = n → Good T rd A w n R) → K 1 τ) (k0 : ∀ τ, Fr (rowS 82) σ τ → RowC τ 82 (gM T) R → (∀ L, ¬ Good T rd A w n (L ++ R)) → K 0 τ) : CI E y_Plan_canBeWanted d [vr 92] σ K := by
  have tb := (RV.cnt hT hRO.1).1
  have tc := (RV.cnt hT hRO.1).2
  refine c_Plan_canBeWanted (b_Plan_canBeWanted_0 ?_)
  rw [hR.2.2.1]
  have loop : ∀ (c : Nat) (s : Int) (τ : Mem) (o2 : Option AV), 0 ≤ s → s + c = 64 → Fr (rowS 82) σ τ → RowC τ 82 (gM T) R → (∀ L, Good T rd A w n (L ++ R) → s ≤ tkn (L ++ R)) → Z E y_Plan_canBeWanted d 8 [some (vr 92), some (vi s), o2] [] τ (qi K) := by
    intro c
    induction c with
    | zero =>
      intro s τ o2 s0 hs hF hRt hi
      exact b_Plan_canBeWanted_8 (by omega) ⟨fun _ => k0 τ hF hRt (fun L hL => by have := hi L hL; have := (RV.cnt hT hL.1.1.1).1; omega), fun z => absurd z (by omega)⟩
    | succ c ih =>
      intro s τ o2 s0 hs hF hRt hi
      have hPt := hP.fr hF
      have hs6 : 0 ≤ s ∧ s < 64 := ⟨s0, by omega⟩
      have nx : ∀ (τ2 : Mem) (o2 : Option AV), Fr (rowS 82) τ τ2 → RowC τ2 82 (gM T) R → (∀ L, Good T rd A w n (L ++ R) → tkn (L ++ R) ≠ s) → Z E y_Plan_canBeWanted d 8 [some (vr 92), some (vi (w32 (s + 1))), o2] [] τ2 (qi K) := by
        intro τ2 o2 hF2 hR2 hno
        rw [wid (x := s + 1) (by omega) (by omega)]
        exact ih (s + 1) τ2 o2 (by omega) (by omega) (hF.tr hF2) hR2 (fun L hL => by have := hi L hL; have := hno L hL; omega)
      have no44 : ∀ (o2 : Option AV), (∀ L, Good T rd A w n (L ++ R) → tkn (L ++ R) ≠ s) → Z E y_Plan_canBeWanted d 44 [some (vr 92), some (vi s), o2] [vi 0] τ (qi K) := fun o2 hno => b_Plan_canBeWanted_44 (by omega) ⟨fun _ => nx τ _ Fr.rf hRt hno, fun z => absurd rfl z⟩
      refine b_Plan_canBeWanted_8 (by omega) ⟨fun z => absurd z (by omega), fun _ => ?_⟩
      rw [hRt.2.2.1]
      refine ⟨fun ne => no44 _ (fun L hL e => ne ?_), fun sub => s_bitCount ?_⟩
      · rw [← e]; exact tk_app hT hL.1.1.1 hRO.1
      · rw [bc6 hs6, hPt.2.2.2]
        refine ⟨fun ne => no44 _ (fun L hL e => ne ?_), fun ec => b_Plan_canBeWanted_44 (by omega) ⟨fun z => absurd z (by decide), fun _ => ?_⟩⟩
        · rw [← e, (RV.cnt hT hL.1.1.1).2, hL.2.2]
        · refine s_Plan_hasWantedWorth (by omega) hT hA hPt.1 hPt.2.1 hPt.2.2.1 hM hs6 (fun hyes => ⟨fun z => absurd z (by decide), fun _ => ?_⟩) (fun hno => ⟨fun _ => nx τ _ Fr.rf hRt (fun L hL e => hno _ hL.1 e hL.2.1), fun z => absurd rfl z⟩)
          obtain ⟨R1, r1, r2, r3⟩ := hyes
          rw [hRt.2.2.1]
          have lb := bnot_lt hs6 tb
          refine s_Plan_leastEnd (S := ian s (ixo (tkn R) (-1))) (R := R) (by omega) hT hPt.1.1 hA hPt.1.2.1 hPt.1.2.2.1 lb (fun hne => ?_) (fun _ => hPt.1.2.2.2 _ lb.1 lb.2) hRO hRt (fun x τ4 hF4 h0 hx => ?_)
          · obtain ⟨j, j0, j1, jb⟩ := bit_x lb hne
            rw [bnot hs6 tb ⟨j0, j1⟩] at jb
            by_cases cc : bt s j = 1 ∧ bt (tkn R) j = 0
            · refine ⟨j, ⟨j0, ?_⟩, by rw [bnot hs6 tb ⟨j0, j1⟩, if_pos cc]⟩
              have := cc.1
              rw [← r2] at this
              obtain ⟨y, y1, y2⟩ := (tkn_bt (in63.of hT r1.1.1) ⟨j0, j1⟩).mp this
              have := (r1.1.1.mem y y1).1.2
              omega
            · rw [if_neg cc] at jb; exact absurd jb (by decide)
          · have p0 : τ4 2 0 = T 1 := by rw [hF4 2 (by decide)]; exact hPt.1.1.1.1
            rw [p0]
            refine ⟨fun lt => nx τ4 _ (Fr87r hF4) (hRt.md hF4) (fun L hL e => ?_), fun le => k1 τ4 (hF.tr (Fr87r hF4)) (hRt.md hF4) (fun en => ?_)⟩
            · have tl := tkn_sp hT hL.1.1.1 lb (fun j j0 j1 => by rw [bnot hs6 tb ⟨j0, j1⟩, e])
              have := hx L hL.1.1 tl
              have := hL.1.2.2
              omega
            · have es : tkn R = s := (sbc tb hs6 sub).2 (by rw [tc, ec, en])
              have z : ian s (ixo (tkn R) (-1)) = 0 := by rw [es]; exact sbz hs6
              have ex := h0 z
              refine ⟨⟨hRO, hun, by omega⟩, ?_, en⟩
              rw [← r3, ← wo_row hT hRO.1, ← wo_row hT r1.1.1, es, r2]
  exact loop (64 - tkn R).toNat (tkn R) σ _ tb.1 (by omega) Fr.rf hR (fun L hL => (sbc tb (RV.cnt hT hL.1.1.1).1 (tk_app hT hL.1.1.1 hRO.1)).1)
set_option maxHeartbeats 2000000 in
theorem s_Plan_spell (hT : MT T) (hA : 0 ≤ A ∧ A < 8) (hM : Opn T rd M) (hn : n ≤ 6) : ∀ (m : Nat) {d : Nat} {σ : Mem} {R : RL} {dep : Int} {K : Int → Mem → Prop}, R.length + m = 6 → 6 + m ≤ d → dep = R.length → PS T A M w n σ → RO T A R → (∀ x ∈ R, bt rd x.1 = 0) → RowC σ 82 (gM T) R → R.length ≤ n → (R.length = n → Good T rd A w n R) → (∀ τ Q, Fr (rowS 82) σ τ → RowC τ 82 (gM T) Q → Good T rd A w n Q → (∃ L, Q = L ++ R) → (∀ L2, Good T rd A w n (L2 ++ R) → L2 ++ R = Q ∨ lexR Q (L2 ++ R)) → K 1 τ) → (∀ τ, Fr (rowS 82) σ τ → RowC τ 82 (gM T) R → (∀ L2, ¬ Good T rd A w n (L2 ++ R)) → K 0 τ) → CI E y_Plan_spell d [vr 92, vi dep] σ K := by
  have w82 : isRow 82 := Or.inr rfl
  have t4 := hT.2.2.2.1
  have t2 := hT.2.1
  have done : ∀ {σ : Mem} {R : RL} {K : Int → Mem → Prop}, RowC σ 82 (gM T) R → R.length = n → (R.length = n → Good T rd A w n R) → (∀ τ Q, Fr (rowS 82) σ τ → RowC τ 82 (gM T) Q → Good T rd A w n Q → (∃ L, Q = L ++ R) → (∀ L2, Good T rd A w n (L2 ++ R) → L2 ++ R = Q ∨ lexR Q (L2 ++ R)) → K 1 τ) → K 1 σ := by
    intro σ R K hR en hg q1
    refine q1 σ R Fr.rf hR (hg en) ⟨[], rfl⟩ (fun L2 g2 => Or.inl ?_)
    have l := g2.2.2
    rw [List.length_append] at l
    have : L2 = [] := List.eq_nil_of_length_eq_zero (by omega)
    rw [this]; rfl
  intro m
  induction m with
  | zero =>
    intro d σ R dep K hm hd hdep hP hRO hun hR hle hg q1 q0
    refine c_Plan_spell (b_Plan_spell_0 ⟨fun _ => ⟨fun ne => absurd ?_ ne, fun _ => done hR (by omega) hg q1⟩, fun lt => absurd lt ?_⟩)
    · rw [hR.1, hP.2.2.2]; omega
    · rw [hR.1, hP.2.2.2]; omega
  | succ m ihm =>
    intro d σ R dep K hm hd hdep hP hRO hun hR hle hg q1 q0
    refine c_Plan_spell (b_Plan_spell_0 ?_)
    rw [hR.1, hP.2.2.2]
    refine ⟨fun _ => ⟨fun ne => absurd (by omega) ne, fun _ => done hR (by omega) hg q1⟩, fun lt => ⟨fun _ => ?_, fun z => absurd z (by omega)⟩⟩
    have hl : R.length < n := by omega
    have hb := Rb_of hT hRO.1.mem
    have itk := (RV.cnt hT hRO.1).1
    have brk : ∀ L2, Good T rd A w n (L2 ++ R) → ∃ L y, L2 ++ R = L ++ y :: R ∧ inM T y := by
      intro L2 g2
      rcases snocE L2 with z | ⟨L, y, z⟩
      · exfalso
        have l := g2.2.2
        rw [z] at l
        have : R.length = n := l
        omega
      · have e : L2 ++ R = L ++ y :: R := by rw [z]; simp
        rw [e] at g2
        exact ⟨L, y, e, (g2.1.1.spl (L := L)).1.1⟩
    have outer : ∀ (c : Nat) (h : Int) (τ : Mem) (o3 o4 : Option AV), 0 ≤ h → h + c = T 2 → Fr (rowS 82) σ τ → RowC τ 82 (gM T) R → (∀ L y, Good T rd A w n (L ++ y :: R) → ¬ (y.2 < h)) → Z E y_Plan_spell d 42 [some (vr 92), some (vi dep), some (vi h), o3, o4] [] τ (qi K) := by
      intro c
      induction c with
      | zero =>
        intro h τ o3 o4 h0 hh hF hRt hi
        have p1 : τ 2 1 = T 2 := (hP.fr hF).1.1.1.2.1
        refine b_Plan_spell_42 ⟨fun _ => q0 τ hF hRt (fun L2 g2 => ?_), fun z => absurd z (by omega)⟩
        obtain ⟨L, y, e, hy⟩ := brk L2 g2
        rw [e] at g2
        exact hi L y g2 (by have := hy.2; omega)
      | succ c iho =>
        intro h τ o3 o4 h0 hh hF hRt hi
        have p1 : τ 2 1 = T 2 := (hP.fr hF).1.1.1.2.1
        have h3 : 0 ≤ h ∧ h < 3 := ⟨h0, by omega⟩
        have inner : ∀ (c : Nat) (k : Int) (τ : Mem) (o4 : Option AV), 0 ≤ k → k + c = T 4 → Fr (rowS 82) σ τ → RowC τ 82 (gM T) R → (∀ L y, Good T rd A w n (L ++ y :: R) → ¬ (y.2 < h ∨ y.2 = h ∧ y.1 < k)) → Z E y_Plan_spell d 55 [some (vr 92), some (vi dep), some (vi h), some (vi k), o4] [] τ (qi K) := by
          intro c
          induction c with
          | zero =>
            intro k τ o4 k0 hk hF hRt hi
            have p3 : τ 2 3 = T 4 := (hP.fr hF).1.1.1.2.2.2.1
            refine b_Plan_spell_55 ⟨fun _ => ?_, fun z => absurd z (by omega)⟩
            rw [wid (x := h + 1) (by omega) (by omega)]
            refine iho (h + 1) τ _ _ (by omega) (by omega) hF hRt (fun L y g2 => ?_)
            have hy : inM T y := (g2.1.1.spl (L := L)).1.1
            have := hi L y g2
            have := hy.1
            omega
          | succ c ihi =>
            intro k τ o4 k0 hk hF hRt hi
            have hPt := hP.fr hF
            have p3 : τ 2 3 = T 4 := hPt.1.1.1.2.2.2.1
            have p1 : τ 2 1 = T 2 := hPt.1.1.1.2.1
            have k6 : 0 ≤ k ∧ k < 6 := ⟨k0, by omega⟩
            have nx : ∀ (τ2 : Mem) (o4 : Option AV), Fr (rowS 82) σ τ2 → RowC τ2 82 (gM T) R → (∀ L, ¬ Good T rd A w n (L ++ (k, h) :: R)) → Z E y_Plan_spell d 55 [some (vr 92), some (vi dep), some (vi h), some (vi (w32 (k + 1))), o4] [] τ2 (qi K) := by
              intro τ2 o4 hF2 hR2 hno
              rw [wid (x := k + 1) (by omega) (by omega)]
              refine ihi (k + 1) τ2 o4 (by omega) (by omega) hF2 hR2 (fun L y g2 => ?_)
              have := hi L y g2
              by_cases e : y.1 = k ∧ y.2 = h
              · exfalso
                have ey : y = (k, h) := by rw [← e.1, ← e.2]
                rw [ey] at g2; exact hno L g2
              · omega
            refine b_Plan_spell_55 ⟨fun z => absurd z (by omega), fun _ => ⟨fun z => absurd z (by omega), fun _ => ?_⟩⟩
            rw [bit_eqU (by omega), hPt.2.1, hRt.2.2.1, bnot hM.1 itk k6]
            by_cases cc : bt M k = 1 ∧ bt (tkn R) k = 0
            · rw [if_pos cc]
              refine ⟨fun z => absurd z (by decide), fun _ => b_Plan_spell_98 (by omega) ⟨fun z => absurd z (by decide), fun _ => ⟨k6, ?_⟩⟩⟩
              rw [bit_eqU (by omega)]
              have hk2 := (hM.2 k k6.1 k6.2).mp cc.1
              have rq := ((hPt.1.2.2.1 k k0 hk2.1).2.2 h h0 (by omega)).1
              refine ⟨fun z => nx τ _ hF hRt (fun L g2 => ?_), fun z => ?_⟩
              · have := (g2.1.1.spl (L := L)).2 (k, h) List.mem_cons_self
                have := rq.mpr this
                omega
              · obtain ⟨bA, bT⟩ := rq.mp (bt_not z)
                have hxM : inM T (k, h) := ⟨⟨k0, hk2.1⟩, ⟨h0, by show h < T 2; omega⟩⟩
                have hRO2 : RO T A ((k, h) :: R) := ⟨⟨hxM, cc.2, hRO.1⟩, fun y hy => by
                  rcases List.mem_cons.mp hy with rfl | hy
                  · exact ⟨bA, bT⟩
                  · exact hRO.2 y hy⟩
                have hun2 : ∀ x ∈ (k, h) :: R, bt rd x.1 = 0 := fun y hy => by
                  rcases List.mem_cons.mp hy with rfl | hy
                  · exact hk2.2
                  · exact hun y hy
                have drp : ∀ (τ2 : Mem) (o4 : Option AV), Fr (rowS 82) σ τ2 → RowC τ2 82 (gM T) ((k, h) :: R) → (∀ L, ¬ Good T rd A w n (L ++ (k, h) :: R)) → CV E y_Row_drop (d - 1) [vr 82] τ2 (fun τ3 => Z E y_Plan_spell d 55 [some (vr 92), some (vi dep), some (vi h), some (vi (w32 (k + 1))), o4] [] τ3 (qi K)) := fun τ2 o4 hF2 hR2 hno => s_Row_drop (x := (k, h)) w82 h3 hR2 (bdrop itk k6 cc.2) (fun τ3 hF3 hR3 => nx τ3 o4 (hF2.tr hF3) hR3 hno)
                refine s_Row_add (x := (k, h)) w82 (by omega) (hPt.1.1.rb hT) (hPt.1.1.hp hT).2.2.2.1 ⟨⟨k0, by show k < τ 2 3; omega⟩, ⟨h0, by show h < τ 2 1; omega⟩⟩ (gM_b hT hxM.1 hxM.2) hb hRt (by omega) (fun τ1 hF1 hR1 => ?_)
                refine s_Plan_canBeWanted (by omega) hT hA (hPt.fr hF1) hM hRO2 hun2 hR1 (fun τ2 hF2 hR2 hg2 => ⟨fun z => absurd z (by decide), fun _ => ?_⟩) (fun τ2 hF2 hR2 hno => ⟨fun _ => drp τ2 _ ((hF.tr hF1).tr hF2) hR2 hno, fun z => absurd rfl z⟩)
                rw [wid (x := dep + 1) (by omega) (by omega)]
                refine ihm (R := (k, h) :: R) (by simp only [List.length_cons]; omega) (by omega) (by simp only [List.length_cons]; omega) ((hPt.fr hF1).fr hF2) hRO2 hun2 hR2 (by simp only [List.length_cons]; omega) hg2 (fun τ4 Q hF4 hR4 g4 hL4 hlex => ⟨fun z => absurd z (by decide), fun _ => ?_⟩) (fun τ4 hF4 hR4 hno => ⟨fun _ => drp τ4 _ (((hF.tr hF1).tr hF2).tr hF4) hR4 hno, fun z => absurd rfl z⟩)
                obtain ⟨L4, e4⟩ := hL4
                refine q1 τ4 Q (((hF.tr hF1).tr hF2).tr hF4) hR4 g4 ⟨L4 ++ [(k, h)], by rw [e4]; simp⟩ (fun L2 g2 => ?_)
                obtain ⟨L, y, e, hy⟩ := brk L2 g2
                rw [e] at g2 ⊢
                by_cases ek : y.1 = k ∧ y.2 = h
                · have ey : y = (k, h) := by rw [← ek.1, ← ek.2]
                  rw [ey] at g2 ⊢
                  exact hlex L g2
                · refine Or.inr ?_
                  rw [e4]
                  refine lex_br ?_
                  have y6 := (inM6 hT hy).1
                  have := hi L y g2
                  show 10 * h + k < 10 * y.2 + y.1
                  omega
            · rw [if_neg cc]
              refine ⟨fun _ => b_Plan_spell_98 (by omega) ⟨fun _ => nx τ _ hF hRt (fun L g2 => cc ?_), fun z => absurd rfl z⟩, fun z => absurd rfl z⟩
              have r1 := g2.1.1.spl (L := L)
              refine ⟨(hM.2 k k6.1 k6.2).mpr ⟨r1.1.1.1.2, g2.1.2.1 (k, h) (by simp)⟩, r1.1.2.1⟩
        refine b_Plan_spell_42 ⟨fun z => absurd z (by omega), fun _ => inner (T 4).toNat 0 τ _ (by omega) (by omega) hF hRt (fun L y g2 => ?_)⟩
        have hy : inM T y := (g2.1.1.spl (L := L)).1.1
        have := hi L y g2
        have := hy.1
        omega
    refine outer (T 2).toNat 0 σ _ _ (by omega) (by omega) Fr.rf hR (fun L y g2 => ?_)
    have hy : inM T y := (g2.1.1.spl (L := L)).1.1
    have := hy.2
    omega
end
