/-! the reader under test: readLine, endLine, read -/
section
variable {E : EN} {t : Int → Int} {n N : Int} {kd st vl en : Int → Int}
theorem LO.x01 {σ τ : Mem} {x j : Int} {r : Rs} (h : LO kd st vl N σ τ x j r) : x = 0 ∨ x = 1 := by
  by_cases z : r.1 = 0
  · rcases h.2.1 z with a | a
    · exact Or.inr a.1
    · exact Or.inl a.1
  · exact Or.inl (h.2.2 z).1
theorem s_readLine {d : Nat} {σ : Mem} {K : Int → Mem → Prop} {j : Int} {T : TB} (hd : 31 ≤ d) (hT : TokOK t n N kd st vl en) (hB : Byt σ t n) (hs : CN kd st vl N σ j T) (hj : j < N) (q : ∀ x τ, LO kd st vl N σ τ x j (pLine kd vl st t j T) → K x τ) : CI E y_Rdr_readLine d [vr 64] σ K := by
  obtain ⟨h0, hD, hQ⟩ := id hs
  have s6 := h0.2.2.2.2.2
  have no : (kd j < 202 ∨ kd j = 203 ∨ (206 ≤ kd j ∧ kd j ≤ 213) ∨ 219 < kd j) → CI E y_Rdr_fail (d - 1) [vr 64, vi 2] σ (fun x τ => (x = 0 ∨ x = 1) ∧ K x τ) := by
    intro hk
    refine s_failL h0 (by decide) (fun τ hF hf h7 => ⟨Or.inl rfl, q 0 τ ?_⟩)
    have e : pLine kd vl st t j T = fP kd 2 j T := by unfold pLine; rw [if_neg (by omega), if_neg (by omega), if_neg (by omega), if_neg (by omega), if_neg (by omega), if_neg (by omega)]
    rw [e]; exact LO.flt (hF.wk (by decide)) (by decide) (hf T)
  have lw : ∀ l : Int, 0 ≤ l ∧ l < 4 → kd j = 214 + l → CI E y_Rdr_readLaw (d - 1) [vr 64, vi l] σ (fun x τ => (x = 0 ∨ x = 1) ∧ K x τ) := by
    intro l hl e
    have e2 : pLine kd vl st t j T = pLaw kd vl l j T := by unfold pLine; rw [if_neg (by omega), if_neg (by omega), if_neg (by omega), if_pos (by omega), show kd j - 214 = l by omega]
    rw [e2] at q
    exact s_readLaw (by omega) hl hT hs hj (fun x τ h => ⟨h.x01, q x τ h⟩)
  refine c_Rdr_readLine (b_Rdr_readLine_0 (by omega) ?_)
  rw [h0.2.2.2.1, h0.1]
  refine ⟨⟨by omega, by omega⟩, fun e => ?_, fun e => no (by omega), fun e => ?_, fun e => ?_, fun e => no (by omega), fun e => no (by omega), fun e => no (by omega), fun e => no (by omega), fun e => no (by omega), fun e => no (by omega), fun e => no (by omega), fun e => no (by omega), fun e => lw 0 (by decide) (by omega), fun e => lw 1 (by decide) (by omega), fun e => lw 2 (by decide) (by omega), fun e => lw 3 (by decide) (by omega), fun e => ?_, fun e => ?_, fun e => no (by omega)⟩
  · have e2 : pLine kd vl st t j T = pHand kd vl j T := by unfold pLine; rw [if_pos e]
    rw [e2] at q
    exact s_readHand (by omega) hT hs hj (fun x τ h => ⟨h.x01, q x τ h⟩)
  · have e2 : pLine kd vl st t j T = pCourt kd vl j T := by unfold pLine; rw [if_neg (by omega), if_pos e]
    rw [e2] at q
    exact s_readCourt (by omega) hT hs hj (fun x τ h => ⟨h.x01, q x τ h⟩)
  · have e2 : pLine kd vl st t j T = pLetter kd vl j T := by unfold pLine; rw [if_neg (by omega), if_neg (by omega), if_pos e]
    rw [e2] at q
    exact s_readLetter (by omega) hT hs hj (fun x τ h => ⟨h.x01, q x τ h⟩)
  · have e2 : pLine kd vl st t j T = pPrior kd vl j T := by unfold pLine; rw [if_neg (by omega), if_neg (by omega), if_neg (by omega), if_neg (by omega), if_pos e]
    rw [e2] at q
    exact s_readPrior (by omega) hT hs hj (fun x τ h => ⟨h.x01, q x τ h⟩)
  · have e2 : pLine kd vl st t j T = pName kd vl st t j T := by unfold pLine; rw [if_neg (by omega), if_neg (by omega), if_neg (by omega), if_neg (by omega), if_neg (by omega), if_pos e]
    rw [e2] at q
    exact s_readName (by omega) hT hB hs hj (fun x τ h => ⟨h.x01, q x τ h⟩)
theorem s_endLine {d : Nat} {σ : Mem} {K : Int → Mem → Prop} {j : Int} {T : TB} (hd : 2 ≤ d) (hT : TokOK t n N kd st vl en) (hs : CN kd st vl N σ j T) (k1 : kd j = 59 → CN kd st vl N (up (up σ 14 4 (T 0 + 1)) 64 6 (j + 1)) (j + 1) (upT T 0 (T 0 + 1)) → K 1 (up (up σ 14 4 (T 0 + 1)) 64 6 (j + 1))) (k0 : kd j ≠ 59 → ∀ τ, Fr rdC σ τ → (∀ U : TB, Flt st τ (fP kd 2 j U)) → K 0 τ) : CI E y_Rdr_endLine d [vr 64] σ K := by
  obtain ⟨h0, hD, hQ⟩ := hs
  have s6 := h0.2.2.2.2.2
  have q0 := hQ.2.2.1
  have e4 : σ 14 4 = T 0 := hD.1.2.2.2.2.1
  refine c_Rdr_endLine (b_Rdr_endLine_0 (by omega) ?_)
  rw [e4, wid (x := T 0 + 1) (by omega) (by omega)]
  have c1 : C0 kd st vl N (up σ 14 4 (T 0 + 1)) j := h0.uc (by omega)
  refine s_takeToken (by omega) hT c1 (by decide) (fun e jl => ⟨Or.inr rfl, k1 e ⟨c1.u6 (i := j + 1) (by omega), (hD.num (x := 0) (k := 4) (by omega)).c64, hQ.set (by omega) rfl (by omega) (fun _ => ⟨rfl, by omega⟩) (fun z => absurd z (by decide)) (fun z => absurd z (by decide))⟩⟩) (fun ne τ hF hf h7 => ⟨Or.inl rfl, k0 ne τ ((Fr.rf.up (by decide)).tr (hF.wk (by decide))) hf⟩)
/-- how reading ends -/
def RD (st : Int → Int) (σ τ : Mem) (r : Rs) : Prop := Fr (woC ++ rdC) σ τ ∧ (r.1 = 0 → τ 64 7 = 0 ∧ τ 64 8 = -1 ∧ τ 14 18 = 0 ∧ HR τ 14 r.2.2 ∧ MT r.2.2 ∧ EX r.2.1 r.2.2 ∧ r.2.1 ≤ 900) ∧ (r.1 ≠ 0 → Flt st τ r)
theorem pEnd_y {j : Int} {T : TB} (h : kd j = 59) : pEnd kd j T = (0, j + 1, upT T 0 (T 0 + 1)) := if_pos h
theorem pEnd_n {j : Int} {T : TB} (h : kd j ≠ 59) : pEnd kd j T = fP kd 2 j T := if_neg h
theorem PK.e0 {T : TB} {v : Int} (h : PK T) : PK (upT T 0 v) := h.cg (fun x _ _ => upT_n (by omega)) (fun x _ => upT_n (by omega)) (by rw [upT_n (by decide)]; exact h.2.2.1) (by rw [upT_n (by decide)]; exact h.2.2.2.1) (by rw [upT_n (by decide)]; exact h.2.2.2.2)
theorem PK.e1 {T : TB} {v : Int} (h : PK T) : PK (upT T 1 v) := h.cg (fun x _ _ => upT_n (by omega)) (fun x _ => upT_n (by omega)) (by rw [upT_n (by decide)]; exact h.2.2.1) (by rw [upT_n (by decide)]; exact h.2.2.2.1) (by rw [upT_n (by decide)]; exact h.2.2.2.2)
theorem s_readLoop {d : Nat} {σ : Mem} {K : Mem → Prop} (hd : 32 ≤ d) (hT : TokOK t n N kd st vl en) (hB : Byt σ t n) : ∀ (F : Nat) (i a : Int) (U : TB) (τ : Mem) (o1 : Option AV), N < i + F → (0 ≤ a ∧ a ≤ i) → Fr rdC σ τ → CN kd st vl N τ i U → PK U → (∀ τ2, RD st σ τ2 (pLs kd vl st t F i U) → K τ2) → Z E y_Rdr_read d 64 [some (vr 64), o1, some (vi 1), some (vi a)] [] τ (qv K) := by
  intro F
  induction F with
  | zero => intro i a U τ o1 hN ha hF hc; have := hc.1.2.2.2.2.2; intros; omega
  | succ F ih =>
    intro i a U τ o1 hN ha hF hc hP qq
    have c6 := hc.1.2.2.2.2.2
    have er : pLs kd vl st t (F + 1) i U = if kd i = 0 then (0, i, U) else seqR (seqR (pLine kd vl st t i U) (pEnd kd)) (pLs kd vl st t F) := rfl
    have done : kd i = 0 → CV E y_Laws_workOut (d - 1) [vr 68, vr 14] τ (fun τ1 => K τ1) := by
      intro hz
      rw [er, if_pos hz] at qq
      refine s_Laws_workOut (T := U) (by omega) ⟨hc.2.1, hc.2.2.1, hP.1, fun l l0 l1 h1 => (hc.2.2.2.1 l l0 l1 h1).2⟩ (fun τ2 hF2 hH => qq τ2 ⟨(hF.wk (by decide)).tr (hF2.wk (by decide)), fun _ => ⟨?_, ?_, ?_, hH, hc.2.2.1, hc.2.2.2, ?_⟩, fun z => absurd rfl z⟩)
      · rw [hF2 64 (by decide)]; exact hc.1.2.2.2.2.1
      · rw [hF2 64 (by decide)]; exact c6.2.2.2
      · rw [hF2 14 (by decide)]; exact hc.2.1.1.2.2.2.2.2.2.2
      · show i ≤ 900; omega
    have dead : ∀ (τ2 : Mem) (b : Int) (o : Option AV), K τ2 → Z E y_Rdr_read d 64 [some (vr 64), o, some (vi 0), some (vi b)] [] τ2 (qv K) := fun τ2 b o h => b_Rdr_read_64 (a1 := 0) (by omega) ⟨fun _ => ⟨fun _ => h, fun z => absurd rfl z⟩, fun _ => ⟨fun _ => ⟨fun _ => h, fun z => absurd rfl z⟩, fun z => absurd rfl z⟩⟩
    refine b_Rdr_read_64 (a1 := 0) (by omega) ⟨fun z => ⟨fun y => absurd y (by decide), fun _ => done ?_⟩, fun lt => ⟨fun y => absurd y (by decide), fun _ => ?_⟩⟩
    · have : i = N := by omega
      rw [this]; exact hT.2.2.2.1
    · rw [hc.1.2.2.2.1, hc.1.1]
      refine ⟨⟨by omega, by omega⟩, fun hz => ⟨fun y => absurd y (by decide), fun _ => done hz⟩, fun nz => ?_⟩
      have il : i < N := kd_lt hT ⟨c6.1, c6.2.1⟩ nz
      rw [er, if_neg nz] at qq
      rw [wid (x := a + 1) (by omega) (by omega)]
      refine s_readLine (by omega) hT (hB.fr (hF 1 (by decide))) hc il (fun x τ2 hO => ?_)
      have hF2 : Fr rdC σ τ2 := hF.tr hO.1
      by_cases hz : (pLine kd vl st t i U).1 = 0
      · have pk := pLine_pk hT hP ⟨c6.1, il⟩ hz
        rw [seqR_0 hz] at qq
        generalize pLine kd vl st t i U = r at *
        rcases hO.2.1 hz with ⟨ex, hc2, hi2⟩ | ⟨ex, ne, hf⟩
        · subst ex
          have t6 := hc2.1.2.2.2.2.2
          refine ⟨fun z => absurd z (by decide), fun _ => s_endLine (by omega) hT hc2 (fun e hc3 => ⟨fun z => absurd z (by decide), fun _ => ?_⟩) (fun ne τ3 hF3 hf => ⟨fun _ => dead _ _ _ (qq τ3 ?_), fun z => absurd rfl z⟩)⟩
          · rw [pEnd_y e, seqR_0 rfl] at qq
            exact ih (r.2.1 + 1) (a + 1) _ _ _ (by omega) (by omega) ((hF2.up (by decide)).up (by decide)) hc3 pk.1.e0 qq
          · rw [pEnd_n ne, seqR_n (fP_n (by decide))]
            exact ⟨(hF2.tr hF3).wk (by decide), fun z => absurd z (fP_n (by decide)), fun _ => hf _⟩
        · subst ex
          refine ⟨fun _ => dead _ _ _ (qq τ2 ?_), fun z => absurd rfl z⟩
          rw [pEnd_n ne, seqR_n (fP_n (by decide))]
          exact ⟨hF2.wk (by decide), fun z => absurd z (fP_n (by decide)), fun _ => hf⟩
      · obtain ⟨ex, hf⟩ := hO.2.2 hz
        subst ex
        rw [seqR_n hz, seqR_n hz] at qq
        exact ⟨fun _ => dead _ _ _ (qq τ2 ⟨hF2.wk (by decide), fun z => absurd z hz, fun _ => hf⟩), fun z => absurd rfl z⟩
end
section
variable {E : EN} {d : Nat} {σ : Mem}
/-- the table at the beginning -/
def tb0 (T : TB) : Prop := ∀ k : Int, 0 ≤ k → k < 1036 → T k = if k = 5 then 50 else 0
theorem tb0.z {T : TB} (h : tb0 T) {k : Int} (h0 : 0 ≤ k ∧ k < 1036) (hk : k ≠ 5) : T k = 0 := by rw [h k h0.1 h0.2, if_neg hk]
theorem tb0.pk {T : TB} (h : tb0 T) : PK T := by
  have z := fun k a b c => h.z (k := k) ⟨a, b⟩ c
  refine ⟨fun l l0 l1 hl => absurd hl (by rw [z _ (by omega) (by omega) (by omega)]; decide), by rw [z 135 (by omega) (by omega) (by omega)]; omega, ?_, ?_, ?_⟩
  · rw [z 2 (by omega) (by omega) (by omega)]; omega
  · rw [z 3 (by omega) (by omega) (by omega)]; omega
  · rw [z 4 (by omega) (by omega) (by omega)]; omega
theorem tb0.qt {T : TB} (h : tb0 T) : QT 0 T := by
  have z := fun k a b c => h.z (k := k) ⟨a, b⟩ c
  have t1 := z 1 (by omega) (by omega) (by omega)
  have t2 := z 2 (by omega) (by omega) (by omega)
  have t3 := z 3 (by omega) (by omega) (by omega)
  have t4 := z 4 (by omega) (by omega) (by omega)
  have t6 := z 6 (by omega) (by omega) (by omega)
  have t0 := z 0 (by omega) (by omega) (by omega)
  have t135 := z 135 (by omega) (by omega) (by omega)
  have t5 : T 5 = 50 := by rw [h 5 (by omega) (by omega), if_pos rfl]
  refine ⟨⟨by omega, by omega, by omega, by omega, by omega, by omega, fun i i0 i1 => by omega, fun y y0 y1 => ?_, fun c c0 c1 => by omega, fun k k0 k1 => by omega, fun l l0 l1 => ⟨Or.inl (z _ (by omega) (by omega) (by omega)), fun y => absurd y (by rw [z _ (by omega) (by omega) (by omega)]; decide)⟩⟩, ⟨fun l l0 l1 y => absurd y (by rw [z _ (by omega) (by omega) (by omega)]; decide), by omega, by omega, fun i i0 i1 => z i (by omega) (by omega) (by omega), fun k k0 k1 => ⟨z _ (by omega) (by omega) (by omega), z _ (by omega) (by omega) (by omega), z _ (by omega) (by omega) (by omega)⟩⟩⟩
  rw [z _ (by omega) (by omega) (by omega), z _ (by omega) (by omega) (by omega)]; omega
theorem s_read {K : Mem → Prop} {t : Int → Int} {n : Int} {T : TB} (hd : 40 ≤ d) (h0 : tb0 T) (hB : Byt σ t n) (q : ∀ (N : Int) (kd st vl en : Int → Int) (τ : Mem), TokOK t n N kd st vl en → Fr (woC ++ rdC ++ [65, 66, 67]) σ τ → (∀ r, r = pRoom kd vl st t T → (r.1 = 0 → τ 64 7 = 0 ∧ τ 64 8 = -1 ∧ τ 14 18 = 0 ∧ HR τ 14 r.2.2 ∧ MT r.2.2 ∧ EX r.2.1 r.2.2 ∧ r.2.1 ≤ 900) ∧ (r.1 ≠ 0 → Flt st τ r)) → K τ) : CV E y_Rdr_read d [vr 64, vi n] σ K := by
  have z := fun k a b c => h0.z (k := k) ⟨a, b⟩ c
  have n9 := hB.1
  refine c_Rdr_read (b_Rdr_read_0 (by omega) (c_Room_clear (b_Room_clear_0 (Or.inr (Or.inl rfl)) (by omega) ?_)))
  refine s_fillI (n := 3) rfl (by decide) (fun τ1 F1 v1 _ => s_fillI (n := 3) rfl (by decide) (fun τ2 F2 v2 _ => s_fillI (n := 42) rfl (by decide) (fun τ3 F3 v3 _ => ?_)))
  refine c_Laws_clear (b_Laws_clear_0 (by omega) (s_fillI (n := 4) rfl (by decide) (fun τ4 F4 v4 _ => s_fillI (n := 4) rfl (by decide) (fun τ5 F5 v5 _ => ?_))))
  refine s_Math_min ?_
  rw [show min n 900 = n by omega]
  -- the draft is plain
  have w14 : ∀ k : Int, τ5 14 k = up (up (up (up (up (up (up (up σ 14 0 0) 14 1 0) 14 2 0) 14 3 0) 14 4 0) 14 5 50) 14 6 0) 14 18 0 14 k := fun k => by
    rw [F5.one (by decide), F4.one (by decide), up_nc (by decide), F3.one (by decide), F2.one (by decide), F1.one (by decide)]
  have hD : DR τ5 T := by
    have t1 := z 1 (by omega) (by omega) (by omega)
    have t2 := z 2 (by omega) (by omega) (by omega)
    have t3 := z 3 (by omega) (by omega) (by omega)
    have t4 := z 4 (by omega) (by omega) (by omega)
    have t6 := z 6 (by omega) (by omega) (by omega)
    have tz := z 0 (by omega) (by omega) (by omega)
    have t135 := z 135 (by omega) (by omega) (by omega)
    have t5 : T 5 = 50 := by rw [h0 5 (by omega) (by omega), if_pos rfl]
    have l68 : τ5 68 1 = 0 := by rw [F5.one (by decide), F4.one (by decide), up_same]
    refine ⟨⟨?_, ?_, ?_, ?_, ?_, ?_, ?_, ?_⟩, ⟨fun y y0 y1 => by omega, fun y y0 y1 => ?_⟩, fun c c0 c1 => by omega, fun k w k0 k1 w0 w1 => ?_, fun i i0 i1 => by omega, ⟨by rw [l68, t135], fun i i0 i1 => by omega⟩, fun l l0 l1 => ⟨fun y => absurd y (by rw [z _ (by omega) (by omega) (by omega)]; decide), fun _ => ⟨?_, ?_⟩⟩⟩
    · rw [w14, t1]; simp [up]
    · rw [w14, t2]; simp [up]
    · rw [w14, t3]; simp [up]
    · rw [w14, t4]; simp [up]
    · rw [w14, tz]; simp [up]
    · rw [w14, t5]; simp [up]
    · rw [w14, t6]; simp [up]
    · rw [w14]; simp [up]
    · rw [F5.one (by decide), F4.one (by decide), up_nc (by decide), F3.one (by decide)]
      exact v2 y (by omega) (by omega)
    · rw [F5.one (by decide), F4.one (by decide), up_nc (by decide), z _ (by omega) (by omega) (by omega)]
      exact v3 _ (by omega) (by omega)
    · rw [F5.one (by decide)]; exact v4 l l0 l1
    · exact v5 l l0 l1
  have FR5 : Fr (woC ++ rdC ++ [65, 66, 67]) σ τ5 := ((((((((((((Fr.rf.up (by decide)).up (by decide)).up (by decide)).up (by decide)).up (by decide)).up (by decide)).up (by decide)).up (by decide)).tr (F1.wk (by decide))).tr (F2.wk (by decide))).tr (F3.wk (by decide))).up (by decide)).tr (F4.wk (by decide)) |>.tr (F5.wk (by decide))
  have hB5 : Byt (up (up τ5 64 7 0) 64 8 (-1)) t n := hB.fr (by rw [up_cell (by decide), up_cell (by decide)]; exact FR5 1 (by decide))
  refine s_Rdr_scan (by omega) hB5 (fun τ6 N en F6 hT => ?_)
  have hN := hT.1
  have q2 := q N (τ6 65) (τ6 66) (τ6 67) en
  generalize hkd : τ6 65 = kd at hT q2
  generalize hst : τ6 66 = st at hT q2
  generalize hvl : τ6 67 = vl at hT q2
  have FR6 : Fr (woC ++ rdC ++ [65, 66, 67]) σ (up τ6 64 6 0) := (((FR5.up (by decide)).up (by decide)).tr (F6.wk (by decide))).up (by decide)
  have hD6 : DR (up τ6 64 6 0) T := (hD.c64.c64.fr (fun c hc => F6 c (by simp at hc ⊢; omega))).c64
  have h6 : C0 kd st vl N (up τ6 64 6 0) 0 := by
    refine ⟨by rw [up_cell (by decide)]; exact hkd, by rw [up_cell (by decide)]; exact hst, by rw [up_cell (by decide)]; exact hvl, up_same _ _ _ _, ?_, ⟨by omega, by omega, by omega, ?_⟩⟩
    · rw [up_nk (by decide), F6 64 (by decide), up_nk (by decide), up_same]
    · rw [up_nk (by decide), F6 64 (by decide), up_same]
  have hB6 : Byt (up τ6 64 6 0) t n := hB5.fr (by rw [up_cell (by decide)]; exact F6 1 (by decide))
  generalize up τ6 64 6 0 = υ at FR6 hD6 h6 hB6 ⊢
  have fin : ∀ r τ, pRoom kd vl st t T = r → RD st υ τ r → K τ := fun r τ er h => q2 τ hT (FR6.tr (h.1.wk (by decide))) (fun r2 e2 => by rw [e2, er]; exact h.2)
  have dead : ∀ (τ2 : Mem) (b a : Int), K τ2 → Z E y_Rdr_read d 64 [some (vr 64), some (vi a), some (vi 0), some (vi b)] [] τ2 (qv K) := fun τ2 b a h => b_Rdr_read_64 (a1 := 0) (by omega) ⟨fun _ => ⟨fun _ => h, fun z => absurd rfl z⟩, fun _ => ⟨fun _ => ⟨fun _ => h, fun z => absurd rfl z⟩, fun z => absurd rfl z⟩⟩
  refine c_Rdr_readNoon (b_Rdr_readNoon_0 (by omega) (s_takeToken (by omega) hT h6 (by decide) (fun e jl => ⟨fun _ => ?_, fun z => absurd z (by decide)⟩) (fun ne τ hF hf h7 => ⟨fun z => absurd rfl z, fun _ => ⟨fun _ => dead _ _ _ (fin _ τ rfl ?_), fun z => absurd rfl z⟩⟩)))
  · have er : pRoom kd vl st t T = seqR (numP kd vl 1 300 1 T (fun v i => (0, i, upT T 1 v))) (fun i U => seqR (pEnd kd i U) (pLs kd vl st t 1000)) := by unfold pRoom; rw [if_pos e]
    refine s_takeNumber (by omega) hT (h6.u6 (i := 0 + 1) (by omega)) (fun n1 n2 n3 jl2 => ?_) (fun f τ hf hn hF hfl h7 => ⟨fun _ => ⟨fun _ => dead _ _ _ (fin _ _ rfl ?_), fun z => absurd rfl z⟩, fun z => absurd z h7⟩)
    · have c2 := ((h6.u6 (i := 0 + 1) (by omega)).u6 (i := 0 + 1 + 1) (by omega))
      have f2 : Fr rdC υ (up (up υ 64 6 (0 + 1)) 64 6 (0 + 1 + 1)) := (Fr.rf.up (by decide)).up (by decide)
      have d2 : DR (up (up υ 64 6 (0 + 1)) 64 6 (0 + 1 + 1)) T := hD6.c64.c64
      generalize up (up υ 64 6 (0 + 1)) 64 6 (0 + 1 + 1) = υ2 at c2 f2 d2 ⊢
      refine ⟨fun y => absurd c2.2.2.2.2.1 y, fun _ => ⟨fun y => absurd y (by decide), fun _ => ?_⟩⟩
      have e1 : numP kd vl 1 300 1 T (fun v i => (0, i, upT T 1 v)) = (0, 0 + 1 + 1, upT T 1 (vl (0 + 1))) := numP_y (j := 0 + 1) n1 n2 n3
      rw [e1, seqR_0 rfl] at er
      have hc : CN kd st vl N (up υ2 14 0 (vl (0 + 1))) (0 + 1 + 1) (upT T 1 (vl (0 + 1))) := ⟨c2.uc (by omega), d2.num (by omega), (h0.qt).set (by omega) rfl (by omega) (fun y => absurd y (by decide)) (fun _ => ⟨by omega, n3⟩) (fun y => absurd y (by decide))⟩
      have f3 : Fr rdC υ (up υ2 14 0 (vl (0 + 1))) := f2.up (by decide)
      have pk := h0.pk.e1 (v := vl (0 + 1))
      generalize upT T 1 (vl (0 + 1)) = U at hc pk er
      refine s_endLine (by omega) hT hc (fun e59 hc3 => ⟨fun y => absurd y (by decide), fun _ => ?_⟩) (fun ne τ3 hF3 hf => ⟨fun _ => dead _ _ _ (fin _ τ3 er ?_), fun y => absurd rfl y⟩)
      · have er2 : pRoom kd vl st t T = pLs kd vl st t 1000 (0 + 1 + 1 + 1) (upT U 0 (U 0 + 1)) := by rw [er]; show seqR (pEnd kd (0 + 1 + 1) U) (pLs kd vl st t 1000) = _; rw [pEnd_y e59, seqR_0 rfl]
        exact s_readLoop (by omega) hT hB6 1000 (0 + 1 + 1 + 1) 0 _ _ _ (by omega) (by omega) ((f3.up (by decide)).up (by decide)) hc3 pk.e0 (fun τ2 h => fin _ τ2 er2 h)
      · show RD st υ τ3 (seqR (pEnd kd (0 + 1 + 1) U) (pLs kd vl st t 1000))
        rw [pEnd_n ne, seqR_n (fP_n (by decide))]
        exact ⟨(f3.tr hF3).wk (by decide), fun y => absurd y (fP_n (by decide)), fun _ => hf _⟩
    · have hn2 : numP kd vl 1 300 1 T (fun v i => (0, i, upT T 1 v)) = fP kd f 1 T := hn T _
      rw [er, hn2, seqR_n (fP_n hf)]
      exact ⟨(((Fr.rf.up (by decide)).tr (hF.wk (by decide))).up (by decide)), fun y => absurd y (fP_n hf), fun _ => (hfl T).uc (by decide)⟩
  · have er : pRoom kd vl st t T = fP kd 2 0 T := by unfold pRoom; rw [if_neg ne]
    rw [er]
    exact ⟨hF.wk (by decide), fun y => absurd y (fP_n (by decide)), fun _ => hf T⟩
end
