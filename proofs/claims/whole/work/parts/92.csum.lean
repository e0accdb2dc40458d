/-! the reader under test: readAtom, readTerm, readSum -/
section
variable {E : EN} {t : Int → Int} {n N : Int} {kd st vl en : Int → Int} {l : Int}
theorem CS.up6 {σ : Mem} {j : Int} {T : TB} (h : CS kd st vl N σ j T) (hj : j + 1 ≤ N) : CS kd st vl N (up σ 64 6 (j + 1)) (j + 1) T := by
  obtain ⟨s1, s2, s3, s4, s5, s6, s7, s8⟩ := h
  exact ⟨by rw [up_cell (by decide)]; exact s1, by rw [up_cell (by decide)]; exact s2, by rw [up_cell (by decide)]; exact s3, up_same _ _ _ _, by rw [up_nk (by decide)]; exact s5, ⟨by omega, hj, s6.2.2.1, by rw [up_nk (by decide)]; exact s6.2.2.2⟩, ⟨by rw [up_nc (by decide)]; exact s7.1, fun i i0 i1 => by rw [up_nc (by decide)]; exact s7.2 i i0 i1⟩, ⟨s8.1, by omega⟩⟩
theorem cf.d0 {σ τ : Mem} {j : Int} {T : TB} (h : cf σ τ) (hs : CS kd st vl N σ j T) : 0 ≤ τ 68 1 := h.2.2.2 (by rw [hs.2.2.2.2.2.2.1.1]; exact hs.2.2.2.2.2.2.2.1)
/-- readAtom at depth 6 - m is what the tokens say -/
def CAt (E : EN) (kd st vl : Int → Int) (N l : Int) (m : Nat) : Prop := ∀ {d : Nat} {σ : Mem} {j : Int} {T : TB} {K : Int → Mem → Prop}, 3 * m + 4 ≤ d → CS kd st vl N σ j T → (∀ x τ, CO st N (1 + 2 * m) σ τ x j T (pAt kd vl l m j T) → K x τ) → CI E y_Rdr_readAtom d [vr 64, vi l, vi (6 - m)] σ K
theorem s_Rdr_readTerm {m : Nat} (hm : m ≤ 6) (hA : CAt E kd st vl N l m) (hT : TokOK t n N kd st vl en) {d : Nat} {σ : Mem} {j : Int} {T : TB} {K : Int → Mem → Prop} (hd : 3 * m + 5 ≤ d) (hs : CS kd st vl N σ j T) (q : ∀ x τ, CO st N (1 + 2 * m + 1) σ τ x j T (pTe kd (pAt kd vl l m) j T) → K x τ) : CI E y_Rdr_readTerm d [vr 64, vi l, vi (6 - m)] σ K := by
  have h8 := hs.2.2.2.2.2.2.2
  have loop : ∀ (F : Nat) (i a : Int) (U : TB) (τ : Mem), N < i + F → (0 ≤ a ∧ a < i) → cf σ τ → CS kd st vl N τ i U → (j < i ∧ i ≤ N) → XT (1 + 2 * m + 1) j T i U → (∀ x τ2, CO st N (1 + 2 * m + 1) σ τ2 x j T (pTl kd (pAt kd vl l m) F i U) → K x τ2) → Z E y_Rdr_readTerm d 10 [some (vr 64), some (vi l), some (vi (6 - m)), some (vi 1), some (vi a)] [] τ (qi K) := by
    intro F
    induction F with
    | zero => intro i a U τ hF ha; intros; omega
    | succ F ih =>
      intro i a U τ hF ha hc hsi hji hX qq
      obtain ⟨s1, s2, s3, s4, s5, s6, s7, s8⟩ := id hsi
      have s62 := s6.2.2
      refine b_Rdr_readTerm_10 (by omega) ⟨fun z => absurd z (by omega), fun _ => ⟨fun z => absurd z (by decide), fun _ => ?_⟩⟩
      rw [s4, s1]
      refine ⟨⟨by omega, by omega⟩, fun ne => ⟨Or.inr rfl, qq 1 τ ?_⟩, fun e => ?_⟩
      · have er : pTl kd (pAt kd vl l m) (F + 1) i U = (0, i, U) := if_neg ne
        rw [er]
        exact ⟨hc, fun _ => ⟨rfl, s5, s4, s7, ⟨hji.1, hji.2, s62.2⟩, hX⟩, fun z => absurd rfl z⟩
      · have il : i < N := kd_lt hT ⟨s6.1, s6.2.1⟩ (by rw [e]; decide)
        have er : pTl kd (pAt kd vl l m) (F + 1) i U = seqR (pAt kd vl l m (i + 1) U) (fun i U => pTl kd (pAt kd vl l m) F i (cdP U 3002)) := if_pos e
        rw [er] at qq
        rw [wid (x := i + 1) (by omega) (by omega)]
        have hs2 := hsi.up6 (by omega)
        refine hA (by omega) hs2 (fun x τ1 hO => ?_)
        have hc1 : cf σ τ1 := (hc.u64 (by omega)).tr hO.1
        by_cases h0 : (pAt kd vl l m (i + 1) U).1 = 0
        · have cs1 := hO.nx hs2 h0
          obtain ⟨o1, o2, o3, o4, o5, o6⟩ := hO.2.1 h0
          rw [seqR_0 h0] at qq
          have x1 := o6.1
          have c8 := cs1.2.2.2.2.2.2.2
          subst o1
          refine s_Laws_add o4 ⟨by omega, by omega⟩ (c := 3002) rfl (fun τ2 hc2 e64 hD2 => ?_)
          rw [wid (x := a + 1) (by omega) (by omega)]
          have X2 := hX.op h8.1 o6 (c := 3002) (by omega)
          have mx : max (1 + 2 * m + 1) (1 + 2 * m + 1) = 1 + 2 * m + 1 := by omega
          rw [mx] at X2
          obtain ⟨u1, u2, u3, u4, u5, u6, u7, u8⟩ := cs1
          have X3 := X2.1
          refine ih _ (a + 1) _ τ2 (by omega) (by omega) (hc1.tr hc2) ⟨by rw [hc2.1 65 (by decide)]; exact u1, by rw [hc2.1 66 (by decide)]; exact u2, by rw [hc2.1 67 (by decide)]; exact u3, by rw [e64]; exact u4, by rw [e64]; exact u5, ⟨u6.1, u6.2.1, u6.2.2.1, by rw [e64]; exact u6.2.2.2⟩, hD2, ⟨by omega, by omega⟩⟩ ⟨by omega, by omega⟩ X2 qq
        · rw [seqR_n h0] at qq
          obtain ⟨o1, o2, o3⟩ := hO.2.2 h0
          subst o1
          refine s_Laws_addA (hc1.d0 hs) (fun τ2 hc2 e64 _ => b_Rdr_readTerm_10 (by omega) ⟨fun _ => ⟨Or.inl rfl, ?_⟩, fun _ => ⟨fun _ => ⟨Or.inl rfl, ?_⟩, fun z => absurd rfl z⟩⟩)
          · exact qq 0 τ2 ⟨hc1.tr hc2, fun z => absurd z h0, fun _ => ⟨rfl, by rw [e64]; exact o2, by rw [e64]; exact o3⟩⟩
          · exact qq 0 τ2 ⟨hc1.tr hc2, fun z => absurd z h0, fun _ => ⟨rfl, by rw [e64]; exact o2, by rw [e64]; exact o3⟩⟩
  refine c_Rdr_readTerm (b_Rdr_readTerm_0 (by omega) (hA (by omega) hs (fun x τ hO => ?_)))
  by_cases h0 : (pAt kd vl l m j T).1 = 0
  · obtain ⟨o1, o2, o3, o4, o5, o6⟩ := hO.2.1 h0
    have cs1 := hO.nx hs h0
    subst o1
    have e : pTe kd (pAt kd vl l m) j T = pTl kd (pAt kd vl l m) 1000 (pAt kd vl l m j T).2.1 (pAt kd vl l m j T).2.2 := seqR_0 h0
    rw [e] at q
    have s6 := hs.2.2.2.2.2.1
    exact loop 1000 _ 0 _ τ (by omega) (by omega) hO.1 cs1 ⟨o5.1, o5.2.1⟩ (o6.mo (by omega)) q
  · obtain ⟨o1, o2, o3⟩ := hO.2.2 h0
    subst o1
    have e : pTe kd (pAt kd vl l m) j T = pAt kd vl l m j T := seqR_n h0
    rw [e] at q
    have k0 : K 0 τ := q 0 τ ⟨hO.1, fun z => absurd z h0, fun _ => ⟨rfl, o2, o3⟩⟩
    exact b_Rdr_readTerm_10 (by omega) ⟨fun _ => ⟨Or.inl rfl, k0⟩, fun _ => ⟨fun _ => ⟨Or.inl rfl, k0⟩, fun z => absurd rfl z⟩⟩
theorem s_Rdr_readSum {m : Nat} (hm : m ≤ 6) (hA : CAt E kd st vl N l m) (hT : TokOK t n N kd st vl en) {d : Nat} {σ : Mem} {j : Int} {T : TB} {K : Int → Mem → Prop} (hd : 3 * m + 6 ≤ d) (hs : CS kd st vl N σ j T) (q : ∀ x τ, CO st N (1 + 2 * m + 2) σ τ x j T (pSu kd (pAt kd vl l m) j T) → K x τ) : CI E y_Rdr_readSum d [vr 64, vi l, vi (6 - m)] σ K := by
  have h8 := hs.2.2.2.2.2.2.2
  have loop : ∀ (F : Nat) (i a : Int) (U : TB) (τ : Mem) (o5 : Option AV), N < i + F → (0 ≤ a ∧ a < i) → cf σ τ → CS kd st vl N τ i U → (j < i ∧ i ≤ N) → XT (1 + 2 * m + 2) j T i U → (∀ x τ2, CO st N (1 + 2 * m + 2) σ τ2 x j T (pSl kd (pTe kd (pAt kd vl l m)) F i U) → K x τ2) → Z E y_Rdr_readSum d 10 [some (vr 64), some (vi l), some (vi (6 - m)), some (vi 1), some (vi a), o5] [] τ (qi K) := by
    intro F
    induction F with
    | zero => intro i a U τ o5 hF ha; intros; omega
    | succ F ih =>
      intro i a U τ o5 hF ha hc hsi hji hX qq
      obtain ⟨s1, s2, s3, s4, s5, s6, s7, s8⟩ := id hsi
      have s62 := s6.2.2
      have go : ∀ (c x : Int), (kd i = 43 ∨ kd i = 45) → c = (if kd i = 43 then 3000 else 3001) → x = trc c → ∀ o5, Z E y_Rdr_readSum d 73 [some (vr 64), some (vi l), some (vi (6 - m)), some (vi 1), some (vi a), o5] [vi x] τ (qi K) := by
        intro c x e hcc hx o5
        have il : i < N := kd_lt hT ⟨s6.1, s6.2.1⟩ (by omega)
        have er : pSl kd (pTe kd (pAt kd vl l m)) (F + 1) i U = seqR (pTe kd (pAt kd vl l m) (i + 1) U) (fun i2 U => pSl kd (pTe kd (pAt kd vl l m)) F i2 (cdP U (if kd i = 43 then 3000 else 3001))) := if_pos e
        rw [er, ← hcc] at qq
        have c3 : 3000 ≤ c ∧ c ≤ 3002 := by
          by_cases z : kd i = 43
          · rw [if_pos z] at hcc; omega
          · rw [if_neg z] at hcc; omega
        refine b_Rdr_readSum_73 (by omega) ?_
        rw [s4, wid (x := i + 1) (by omega) (by omega)]
        have hs2 := hsi.up6 (by omega)
        refine s_Rdr_readTerm hm hA hT (by omega) hs2 (fun y τ1 hO => ?_)
        have hc1 : cf σ τ1 := (hc.u64 (by omega)).tr hO.1
        by_cases h0 : (pTe kd (pAt kd vl l m) (i + 1) U).1 = 0
        · have cs1 := hO.nx hs2 h0
          obtain ⟨o1, o2, o3, o4, o5, o6⟩ := hO.2.1 h0
          rw [seqR_0 h0] at qq
          have x1 := o6.1
          have c8 := cs1.2.2.2.2.2.2.2
          subst o1
          refine s_Laws_add o4 ⟨by omega, by omega⟩ (c := c) hx (fun τ2 hc2 e64 hD2 => ?_)
          rw [wid (x := a + 1) (by omega) (by omega)]
          have X2 := hX.op h8.1 o6 (c := c) c3
          have mx : max (1 + 2 * m + 2) (1 + 2 * m + 1 + 1) = 1 + 2 * m + 2 := by omega
          rw [mx] at X2
          obtain ⟨u1, u2, u3, u4, u5, u6, u7, u8⟩ := cs1
          have X3 := X2.1
          refine ih _ (a + 1) _ τ2 _ (by omega) (by omega) (hc1.tr hc2) ⟨by rw [hc2.1 65 (by decide)]; exact u1, by rw [hc2.1 66 (by decide)]; exact u2, by rw [hc2.1 67 (by decide)]; exact u3, by rw [e64]; exact u4, by rw [e64]; exact u5, ⟨u6.1, u6.2.1, u6.2.2.1, by rw [e64]; exact u6.2.2.2⟩, hD2, ⟨by omega, by omega⟩⟩ ⟨by omega, by omega⟩ X2 qq
        · rw [seqR_n h0] at qq
          obtain ⟨o1, o2, o3⟩ := hO.2.2 h0
          subst o1
          refine s_Laws_addA (hc1.d0 hs) (fun τ2 hc2 e64 _ => b_Rdr_readSum_10 ⟨fun _ => ⟨Or.inl rfl, ?_⟩, fun _ => ⟨fun _ => ⟨Or.inl rfl, ?_⟩, fun z => absurd rfl z⟩⟩)
          · exact qq 0 τ2 ⟨hc1.tr hc2, fun z => absurd z h0, fun _ => ⟨rfl, by rw [e64]; exact o2, by rw [e64]; exact o3⟩⟩
          · exact qq 0 τ2 ⟨hc1.tr hc2, fun z => absurd z h0, fun _ => ⟨rfl, by rw [e64]; exact o2, by rw [e64]; exact o3⟩⟩
      refine b_Rdr_readSum_10 ⟨fun z => absurd z (by omega), fun _ => ⟨fun z => absurd z (by decide), fun _ => ?_⟩⟩
      rw [s4, s1]
      refine ⟨⟨by omega, by omega⟩, fun e => ⟨fun z => absurd e z, fun _ => go 3000 1200 (Or.inl e) (by rw [if_pos e]) rfl _⟩, fun ne => ⟨fun ne2 => ⟨Or.inr rfl, qq 1 τ ?_⟩, fun e => ⟨fun _ => go 3001 1201 (Or.inr e) (by rw [if_neg ne]) rfl _, fun z => absurd z ne⟩⟩⟩
      have er : pSl kd (pTe kd (pAt kd vl l m)) (F + 1) i U = (0, i, U) := if_neg (fun z => z.elim ne ne2)
      rw [er]
      exact ⟨hc, fun _ => ⟨rfl, s5, s4, s7, ⟨hji.1, hji.2, s62.2⟩, hX⟩, fun z => absurd rfl z⟩
  refine c_Rdr_readSum (b_Rdr_readSum_0 (by omega) (s_Rdr_readTerm hm hA hT (by omega) hs (fun x τ hO => ?_)))
  by_cases h0 : (pTe kd (pAt kd vl l m) j T).1 = 0
  · obtain ⟨o1, o2, o3, o4, o5, o6⟩ := hO.2.1 h0
    have cs1 := hO.nx hs h0
    subst o1
    have e : pSu kd (pAt kd vl l m) j T = pSl kd (pTe kd (pAt kd vl l m)) 1000 (pTe kd (pAt kd vl l m) j T).2.1 (pTe kd (pAt kd vl l m) j T).2.2 := seqR_0 h0
    rw [e] at q
    have s6 := hs.2.2.2.2.2.1
    exact loop 1000 _ 0 _ τ _ (by omega) (by omega) hO.1 cs1 ⟨o5.1, o5.2.1⟩ (o6.mo (by omega)) q
  · obtain ⟨o1, o2, o3⟩ := hO.2.2 h0
    subst o1
    have e : pSu kd (pAt kd vl l m) j T = pTe kd (pAt kd vl l m) j T := seqR_n h0
    rw [e] at q
    have k0 : K 0 τ := q 0 τ ⟨hO.1, fun z => absurd z h0, fun _ => ⟨rfl, o2, o3⟩⟩
    exact b_Rdr_readSum_10 ⟨fun _ => ⟨Or.inl rfl, k0⟩, fun _ => ⟨fun _ => ⟨Or.inl rfl, k0⟩, fun z => absurd rfl z⟩⟩
theorem s_Rdr_readAtom (hl : 0 ≤ l ∧ l < 4) (hT : TokOK t n N kd st vl en) : ∀ m : Nat, m ≤ 6 → CAt E kd st vl N l m := by
  intro m
  -- a number or a word
  have flat : ∀ (sub : Int → TB → Rs) (b : Nat) {d : Nat} {σ : Mem} {j : Int} {T : TB} {K : Int → Mem → Prop} {a2 : Int}, 1 ≤ b → 2 ≤ d → CS kd st vl N σ j T → (kd j = 40 → (a2 < 6 → CI E y_Rdr_readSum (d - 1) [vr 64, vi l, vi (w32 (a2 + 1))] (up σ 64 6 (j + 1)) (fun x4 τ4 => (x4 ≠ 0 → (0 ≤ τ4 64 6 ∧ τ4 64 6 < 901) ∧ (τ4 65 (τ4 64 6) = 41 → K 1 (up τ4 64 6 (w32 ((τ4 64 6) + 1)))) ∧ (τ4 65 (τ4 64 6) ≠ 41 → CI E y_Rdr_fail (d - 1) [vr 64, vi 2] τ4 (fun x5 τ5 => (x5 = 0 ∨ x5 = 1) ∧ K x5 τ5))) ∧ (x4 = 0 → K 0 τ4))) ∧ (6 ≤ a2 → CI E y_Rdr_fail (d - 1) [vr 64, vi 4] σ (fun x6 τ6 => (x6 = 0 ∨ x6 = 1) ∧ K x6 τ6))) → (∀ x τ, CO st N b σ τ x j T (bAt kd vl l sub j T) → kd j ≠ 40 → K x τ) → CI E y_Rdr_readAtom d [vr 64, vi l, vi a2] σ K := by
    intro sub b d σ j T K a2 hb hd hs h40 q
    obtain ⟨s1, s2, s3, s4, s5, s6, s7, s8⟩ := id hs
    have s62 := s6.2.2
    refine c_Rdr_readAtom (b_Rdr_readAtom_0 (by omega) ?_)
    rw [s4, s1]
    rw [wid (x := j + 1) (by omega) (by omega)]
    refine ⟨⟨by omega, by omega⟩, fun ne40 => c_Rdr_atomOp (b_Rdr_atomOp_0 ?_), h40⟩
    rw [s4, s1, s3]
    have yes : ∀ (c x : Int), kd j ≠ 0 → x = trc c → x ≠ -1 → (0 ≤ c ∧ c ≤ 1004) → bAt kd vl l sub j T = (0, j + 1, cdP T c) → (x ≠ (-1) → CV E y_Laws_add (d - 1) [vr 68, vi x] σ (fun τ2 => K 1 (up τ2 64 6 (w32 ((τ2 64 6) + 1))))) ∧ (x = (-1) → CI E y_Rdr_fail (d - 1) [vr 64, vi 2] σ (fun x3 τ3 => (x3 = 0 ∨ x3 = 1) ∧ K x3 τ3)) := by
      intro c x hk hx hx1 hc er
      have il : j < N := kd_lt hT ⟨s6.1, s6.2.1⟩ hk
      refine ⟨fun _ => s_Laws_add s7 ⟨s8.1, by omega⟩ hx (fun τ2 hc2 e64 hD2 => ?_), fun z => absurd z hx1⟩
      rw [e64, s4, wid (x := j + 1) (by omega) (by omega)]
      refine q 1 _ ?_ ne40
      rw [er]
      refine ⟨hc2.u64 (by omega), fun _ => ⟨rfl, by rw [up_nk (by decide), e64]; exact s5, up_same _ _ _ _, ⟨by rw [up_nc (by decide)]; exact hD2.1, fun i i0 i1 => by rw [up_nc (by decide)]; exact hD2.2 i i0 i1⟩, ⟨by show j < j + 1; omega, by show j + 1 ≤ N; omega, by rw [up_nk (by decide), e64]; exact s62.2⟩, (XT.one s8.1 hc).mo hb⟩, fun z => absurd rfl z⟩
    have no : wdP l (kd j) = -1 → kd j ≠ 1 → ((-1 : Int) ≠ (-1) → CV E y_Laws_add (d - 1) [vr 68, vi (-1)] σ (fun τ2 => K 1 (up τ2 64 6 (w32 ((τ2 64 6) + 1))))) ∧ ((-1 : Int) = (-1) → CI E y_Rdr_fail (d - 1) [vr 64, vi 2] σ (fun x3 τ3 => (x3 = 0 ∨ x3 = 1) ∧ K x3 τ3)) := by
      intro hw h1
      have er : bAt kd vl l sub j T = fP kd 2 j T := by unfold bAt; rw [if_neg h1, if_neg (fun z => z hw), if_neg ne40]
      refine ⟨fun z => absurd rfl z, fun _ => s_Rdr_failC (b := b) (N := N) (j0 := j) (T0 := T) (T := T) s1 s2 s4 ⟨by omega, by omega⟩ (by decide) cf.rf (fun τ hO => ⟨Or.inl rfl, q 0 τ ?_ ne40⟩)⟩
      rw [er]; exact hO
    have wd : ∀ c : Int, kd j ≠ 1 → wdP l (kd j) = c → c ≠ -1 → bAt kd vl l sub j T = (0, j + 1, cdP T (1000 + c)) := by
      intro c h1 hc hn
      unfold bAt; rw [if_neg h1, hc, if_pos hn]
    refine ⟨⟨by omega, by omega⟩, fun e => ?_, fun e => ⟨fun hl1 => no ?_ (by omega), fun hl1 => yes 1004 1100 (by omega) rfl (by decide) (by omega) (wd 4 (by omega) ?_ (by decide))⟩, fun e => yes 1003 1001 (by omega) rfl (by decide) (by omega) (wd 3 (by omega) ?_ (by decide)), fun e => yes 1000 1002 (by omega) rfl (by decide) (by omega) (wd 0 (by omega) ?_ (by decide)), fun e => yes 1001 1004 (by omega) rfl (by decide) (by omega) (wd 1 (by omega) ?_ (by decide)), fun e => yes 1002 1005 (by omega) rfl (by decide) (by omega) (wd 2 (by omega) ?_ (by decide)), fun e => no ?_ e.1⟩
    · have il : j < N := kd_lt hT ⟨s6.1, s6.2.1⟩ (by omega)
      have nb := ((hT.2.1 j s6.1 il).1).num e
      refine yes (vl j) (vl j) (by omega) ?_ (by omega) ⟨nb.1, by omega⟩ ?_
      · unfold trc; rw [if_pos (by omega)]
      · unfold bAt; rw [if_pos e]
    · unfold wdP; rw [if_neg (by omega), if_neg (by omega), if_neg (by omega), if_neg (by omega), if_neg (fun z => hl1 z.2)]
    · unfold wdP; rw [if_neg (by omega), if_neg (by omega), if_neg (by omega), if_neg (by omega), if_pos ⟨e, hl1⟩]
    · unfold wdP; rw [if_neg (by omega), if_neg (by omega), if_neg (by omega), if_pos e]
    · unfold wdP; rw [if_pos e]
    · unfold wdP; rw [if_neg (by omega), if_pos e]
    · unfold wdP; rw [if_neg (by omega), if_neg (by omega), if_pos e]
    · unfold wdP; rw [if_neg e.2.2.2.1, if_neg e.2.2.2.2.1, if_neg e.2.2.2.2.2, if_neg e.2.2.1, if_neg (fun z => e.2.1 z.1)]
  have b40 : ∀ (sub : Int → TB → Rs) {j : Int} {T : TB}, kd j = 40 → bAt kd vl l sub j T = sub j T := by
    intro sub j T e
    have w : wdP l 40 = -1 := by unfold wdP; rw [if_neg (by decide), if_neg (by decide), if_neg (by decide), if_neg (by decide), if_neg (fun z => absurd z.1 (by decide))]
    unfold bAt; rw [if_neg (by omega), e, if_neg (fun z => z w), if_pos rfl]
  induction m with
  | zero =>
    intro _ d σ j T K hd hs q
    obtain ⟨s1, s2, s3, s4, s5, s6, s7, s8⟩ := id hs
    have s62 := s6.2.2
    refine flat (fun j T => fP kd 4 j T) 1 (by omega) (by omega) hs (fun e => ⟨fun z => absurd z (by decide), fun _ => ?_⟩) (fun x τ hO _ => q x τ hO)
    refine s_Rdr_failC (b := 1) (N := N) (j0 := j) (T0 := T) (T := T) s1 s2 s4 ⟨by omega, by omega⟩ (by decide) cf.rf (fun τ hO => ⟨Or.inl rfl, q 0 τ ?_⟩)
    have er : pAt kd vl l 0 j T = fP kd 4 j T := b40 _ e
    rw [er]; exact hO
  | succ m ih =>
    intro hm d σ j T K hd hs q
    obtain ⟨s1, s2, s3, s4, s5, s6, s7, s8⟩ := id hs
    have s62 := s6.2.2
    refine flat (parP kd (pSu kd (pAt kd vl l m))) (1 + 2 * (m + 1)) (by omega) (by omega) hs (fun e => ⟨fun _ => ?_, fun z => absurd z (by omega)⟩) (fun x τ hO _ => q x τ hO)
    have il : j < N := kd_lt hT ⟨s6.1, s6.2.1⟩ (by omega)
    have er : pAt kd vl l (m + 1) j T = parP kd (pSu kd (pAt kd vl l m)) j T := b40 _ e
    rw [er] at q
    rw [wid (x := 6 - ((m + 1 : Nat) : Int) + 1) (by omega) (by omega), show 6 - ((m + 1 : Nat) : Int) + 1 = 6 - (m : Int) by omega]
    have hs2 := hs.up6 (by omega)
    refine s_Rdr_readSum (by omega) (ih (by omega)) hT (by omega) hs2 (fun x τ hO => ?_)
    have hc : cf σ τ := (cf.rf.u64 (by omega)).tr hO.1
    unfold parP at q
    by_cases h0 : (pSu kd (pAt kd vl l m) (j + 1) T).1 = 0
    · obtain ⟨o1, o2, o3, o4, o5, o6⟩ := hO.2.1 h0
      have cs1 := hO.nx hs2 h0
      obtain ⟨u1, u2, u3, u4, u5, u6, u7, u8⟩ := id cs1
      rw [seqR_0 h0] at q
      subst o1
      refine ⟨fun _ => ?_, fun z => absurd z (by decide)⟩
      rw [u4, u1]
      refine ⟨⟨by omega, by omega⟩, fun e41 => ?_, fun n41 => ?_⟩
      · have i2 : (pSu kd (pAt kd vl l m) (j + 1) T).2.1 < N := kd_lt hT ⟨u6.1, u6.2.1⟩ (by omega)
        rw [if_pos e41] at q
        rw [wid (by omega) (by omega)]
        refine q 1 _ ⟨hc.u64 (by omega), fun _ => ⟨rfl, by rw [up_nk (by decide)]; exact u5, up_same _ _ _ _, ⟨by rw [up_nc (by decide)]; exact o4.1, fun i i0 i1 => by rw [up_nc (by decide)]; exact o4.2 i i0 i1⟩, ⟨?_, ?_, by rw [up_nk (by decide)]; exact u6.2.2.2⟩, ((o6.mo (by omega)).mj (by omega)).mi ?_⟩, fun z => absurd rfl z⟩
        · show j < (pSu kd (pAt kd vl l m) (j + 1) T).2.1 + 1; omega
        · show (pSu kd (pAt kd vl l m) (j + 1) T).2.1 + 1 ≤ N; omega
        · show (pSu kd (pAt kd vl l m) (j + 1) T).2.1 ≤ (pSu kd (pAt kd vl l m) (j + 1) T).2.1 + 1; omega
      · rw [if_neg n41] at q
        exact s_Rdr_failC (b := 1 + 2 * (m + 1)) (N := N) (j0 := j) (T0 := T) u1 u2 u4 ⟨by omega, by omega⟩ (by decide) hc (fun τ2 hO2 => ⟨Or.inl rfl, q 0 τ2 hO2⟩)
    · obtain ⟨o1, o2, o3⟩ := hO.2.2 h0
      rw [seqR_n h0] at q
      subst o1
      exact ⟨fun z => absurd rfl z, fun _ => q 0 τ ⟨hc, fun z => absurd z h0, fun _ => ⟨rfl, o2, o3⟩⟩⟩
end
