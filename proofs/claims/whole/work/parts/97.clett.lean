/-! the reader under test: readLetter, readLine -/
theorem LF.up {U : TB} {k w v : Int} (h : LF U k) (hk : 0 ≤ k ∧ k < 6) (hw : 2 ≤ w ∧ w ≤ 6) (h2 : w = 2 → 1 ≤ v ∧ v ≤ 99) (h3 : w = 3 → 0 ≤ v ∧ v ≤ 99) (h4 : w = 4 ∨ w = 5 → 0 ≤ v ∧ v ≤ 9) (h6 : w = 6 → 0 ≤ v ∧ v ≤ 2) : LF (upT U (37 + 6 * w + k) v) k := by
  obtain ⟨a0, a1, a2, a3, a4, a5, a6⟩ := h
  have g : ∀ y : Int, y ≠ 37 + 6 * w + k → upT U (37 + 6 * w + k) v y = U y := fun y hy => upT_n hy
  have gs : upT U (37 + 6 * w + k) v (37 + 6 * w + k) = v := upT_s
  rcases (show w = 2 ∨ w = 3 ∨ w = 4 ∨ w = 5 ∨ w = 6 by omega) with z | z | z | z | z
  · rw [z, show 37 + 6 * 2 + k = 49 + k by omega] at g gs ⊢
    exact ⟨by rw [g _ (by omega), g 3 (by omega)]; exact a0, by rw [g _ (by omega)]; exact a1, by rw [gs]; exact h2 z, by rw [g _ (by omega)]; exact a3, by rw [g _ (by omega)]; exact a4, by rw [g _ (by omega)]; exact a5, by rw [g _ (by omega)]; exact a6⟩
  · rw [z, show 37 + 6 * 3 + k = 55 + k by omega] at g gs ⊢
    exact ⟨by rw [g _ (by omega), g 3 (by omega)]; exact a0, by rw [g _ (by omega)]; exact a1, by rw [g _ (by omega)]; exact a2, by rw [gs]; exact h3 z, by rw [g _ (by omega)]; exact a4, by rw [g _ (by omega)]; exact a5, by rw [g _ (by omega)]; exact a6⟩
  · rw [z, show 37 + 6 * 4 + k = 61 + k by omega] at g gs ⊢
    exact ⟨by rw [g _ (by omega), g 3 (by omega)]; exact a0, by rw [g _ (by omega)]; exact a1, by rw [g _ (by omega)]; exact a2, by rw [g _ (by omega)]; exact a3, by rw [gs]; exact h4 (Or.inl z), by rw [g _ (by omega)]; exact a5, by rw [g _ (by omega)]; exact a6⟩
  · rw [z, show 37 + 6 * 5 + k = 67 + k by omega] at g gs ⊢
    exact ⟨by rw [g _ (by omega), g 3 (by omega)]; exact a0, by rw [g _ (by omega)]; exact a1, by rw [g _ (by omega)]; exact a2, by rw [g _ (by omega)]; exact a3, by rw [g _ (by omega)]; exact a4, by rw [gs]; exact h4 (Or.inr z), by rw [g _ (by omega)]; exact a6⟩
  · rw [z, show 37 + 6 * 6 + k = 73 + k by omega] at g gs ⊢
    exact ⟨by rw [g _ (by omega), g 3 (by omega)]; exact a0, by rw [g _ (by omega)]; exact a1, by rw [g _ (by omega)]; exact a2, by rw [g _ (by omega)]; exact a3, by rw [g _ (by omega)]; exact a4, by rw [g _ (by omega)]; exact a5, by rw [gs]; exact h6 z⟩
section
variable {E : EN} {t : Int → Int} {n N : Int} {kd st vl en : Int → Int}
/-- one flag that is told well: its place, its number, the next token -/
def FlY (kd vl : Int → Int) (i w v : Int) : Prop := (207 ≤ kd i ∧ kd i ≤ 210 ∧ w = kd i - 205 ∧ kd (i + 1) = 1 ∧ v = vl (i + 1) ∧ (if kd i = 207 then 1 else 0) ≤ v ∧ v ≤ (if kd i ≤ 208 then 99 else 9)) ∨ (kd i = 211 ∧ w = 6 ∧ (kd (i + 1) = 212 ∧ v = 1 ∨ kd (i + 1) = 213 ∧ v = 2))
theorem FlY.p {i w v : Int} (h : FlY kd vl i w v) (F : Nat) (U : TB) : pFl kd vl (F + 1) i U = pFl kd vl F (i + 2) (upT U (37 + 6 * w + U 4) v) := by
  rcases h with ⟨h1, h2, h3, h4, h5, h6, h7⟩ | ⟨h1, h2, h3⟩
  · have e : pFl kd vl (F + 1) i U = numP kd vl (if kd i = 207 then 1 else 0) (if kd i ≤ 208 then 99 else 9) (i + 1) U (fun v i2 => pFl kd vl F i2 (upT U (37 + 6 * (kd i - 205) + U 4) v)) := if_pos ⟨h1, h2⟩
    rw [e, numP_y h4 (by rw [← h5]; exact h6) (by rw [← h5]; exact h7), h3, h5, show i + 1 + 1 = i + 2 by omega]
  · have e : pFl kd vl (F + 1) i U = (if kd (i + 1) = 212 then pFl kd vl F (i + 2) (upT U (73 + U 4) 1) else if kd (i + 1) = 213 then pFl kd vl F (i + 2) (upT U (73 + U 4) 2) else fP kd 2 (i + 1) U) := by
      show (if 207 ≤ kd i ∧ kd i ≤ 210 then _ else if kd i = 211 then _ else _) = _
      rw [if_neg (by omega), if_pos h1]
    rw [e, h2, show 37 + 6 * 6 + U 4 = 73 + U 4 by omega]
    rcases h3 with ⟨a, b⟩ | ⟨a, b⟩
    · rw [if_pos a, b]
    · rw [if_neg (by omega), if_pos a, b]
theorem FlY.b {i w v : Int} (h : FlY kd vl i w v) : (2 ≤ w ∧ w ≤ 6) ∧ (w = 2 → 1 ≤ v ∧ v ≤ 99) ∧ (w = 3 → 0 ≤ v ∧ v ≤ 99) ∧ (w = 4 ∨ w = 5 → 0 ≤ v ∧ v ≤ 9) ∧ (w = 6 → 0 ≤ v ∧ v ≤ 2) := by
  rcases h with ⟨h1, h2, h3, h4, h5, h6, h7⟩ | ⟨h1, h2, h3⟩
  · by_cases a : kd i = 207
    · rw [if_pos a] at h6; rw [if_pos (by omega)] at h7; refine ⟨by omega, fun _ => by omega, fun _ => by omega, fun _ => by omega, fun _ => by omega⟩
    · rw [if_neg a] at h6
      by_cases b : kd i ≤ 208
      · rw [if_pos b] at h7; refine ⟨by omega, fun _ => by omega, fun _ => by omega, fun _ => by omega, fun _ => by omega⟩
      · rw [if_neg b] at h7; refine ⟨by omega, fun _ => by omega, fun _ => by omega, fun _ => by omega, fun _ => by omega⟩
  · refine ⟨by omega, fun _ => by omega, fun _ => by omega, fun _ => by omega, fun _ => by omega⟩
theorem s_readFlag {d : Nat} {σ : Mem} {K : Mem → Prop} {i k : Int} (hd : 2 ≤ d) (hT : TokOK t n N kd st vl en) (hs : C0 kd st vl N σ i) (hi : i < N) (hk : 0 ≤ k ∧ k < 6) (y : ∀ w v τ, FlY kd vl i w v → i + 2 ≤ N → Fr [64] σ τ → C0 kd st vl N τ (i + 2) → K (up τ 18 (7 * k + w) v)) (z : ∀ f i2 τ, f ≠ 0 → (∀ F U, pFl kd vl (F + 1) i U = fP kd f i2 U) → Fr [18, 64] σ τ → (∀ T : TB, Flt st τ (fP kd f i2 T)) → τ 64 7 ≠ 0 → K τ) (o : ¬ (207 ≤ kd i ∧ kd i ≤ 211) → ∀ τ, Fr [64] σ τ → (∀ T : TB, Flt st τ (fP kd 2 i T)) → τ 64 7 ≠ 0 → K τ) : CV E y_Rdr_readFlag d [vr 64, vi (7 * k)] σ K := by
  obtain ⟨s1, s2, s3, s4, s5, s6⟩ := id hs
  have u1 := hs.u6 (i := i + 1) (by omega)
  have f1 : Fr [64] σ (up σ 64 6 (i + 1)) := Fr.rf.up (by simp)
  have last : ∀ (w v : Int) (τ : Mem) (o4 : Option AV), 0 ≤ w ∧ w < 7 → K (up τ 18 (7 * k + w) v) → Z E y_Rdr_readFlag d 79 [some (vr 64), some (vi (7 * k)), some (vi w), some (vi v), o4] [] τ (qv K) := by
    intro w v τ o4 hw hq
    refine b_Rdr_readFlag_79 ⟨fun z => absurd z (by omega), fun _ => ?_⟩
    rw [wid (x := 7 * k + 7) (by omega) (by omega), wid (x := 7 * k + w) (by omega) (by omega)]
    exact ⟨fun z => absurd z (by omega), fun _ => ⟨by omega, hq⟩⟩
  have num : ∀ (w lo hi : Int), 207 ≤ kd i ∧ kd i ≤ 210 → w = kd i - 205 → lo = (if kd i = 207 then 1 else 0) → hi = (if kd i ≤ 208 then 99 else 9) → Z E y_Rdr_readFlag d 60 [some (vr 64), some (vi (7 * k)), some (vi w), some (vi 0), none] [vi hi] (up σ 64 6 (i + 1)) (qv K) := by
    intro w lo hi hr hw hlo hhi
    have tn : ∀ a : Int, a = lo → CI E y_Rdr_takeNumber (d - 1) [vr 64, vi a, vi hi] (up σ 64 6 (i + 1)) (fun x1 τ1 => Z E y_Rdr_readFlag d 79 [some (vr 64), some (vi (7 * k)), some (vi w), some (vi x1), some (vi hi)] [] τ1 (qv K)) := by
      intro a ha
      subst ha
      refine s_takeNumber (by omega) hT u1 (fun n1 n2 n3 jl => last w _ _ _ (by omega) ?_) (fun f τ hf hn hF hfl h7 => last w 0 τ _ (by omega) (z f (i + 1) _ hf (fun F U => ?_) (((f1.wk (by decide)).tr (hF.wk (by decide))).up (by decide)) (fun T => (hfl T).uc (by decide)) (by rw [up_nc (by decide)]; exact h7)))
      · exact y w (vl (i + 1)) _ (Or.inl ⟨hr.1, hr.2, hw, n1, rfl, by rw [← hlo]; exact n2, by rw [← hhi]; exact n3⟩) (by omega) (f1.up (by simp)) (by have := u1.u6 (i := i + 1 + 1) (by omega); rw [show i + 1 + 1 = i + 2 by omega] at this ⊢; exact this)
      · have e : pFl kd vl (F + 1) i U = numP kd vl (if kd i = 207 then 1 else 0) (if kd i ≤ 208 then 99 else 9) (i + 1) U (fun v i2 => pFl kd vl F i2 (upT U (37 + 6 * (kd i - 205) + U 4) v)) := if_pos hr
        rw [e, ← hlo, ← hhi]; exact hn U _
    refine b_Rdr_readFlag_60 (by omega) ⟨fun ne => tn 0 (by rw [hlo, if_neg (by omega)]), fun e => tn 1 (by rw [hlo, if_pos (by omega)])⟩
  refine c_Rdr_readFlag (b_Rdr_readFlag_0 (by omega) (c_Rdr_flagFact (b_Rdr_flagFact_0 ?_)))
  rw [s4, s1]
  rw [wid (x := i + 1) (by omega) (by omega)]
  refine ⟨⟨by omega, by omega⟩, fun e => ⟨fun _ => ⟨fun _ => ⟨fun _ => num 2 1 99 (by omega) (by omega) (by rw [if_pos e]) (by rw [if_pos (by omega)]), fun z => absurd rfl z⟩, fun z => absurd z (by decide)⟩, fun z => absurd z (by decide)⟩, fun e => ⟨fun _ => ⟨fun _ => ⟨fun z => absurd z (by decide), fun _ => ⟨fun z => absurd rfl z, fun _ => num 3 0 99 (by omega) (by omega) (by rw [if_neg (by omega)]) (by rw [if_pos (by omega)])⟩⟩, fun z => absurd z (by decide)⟩, fun z => absurd z (by decide)⟩, fun e => ⟨fun _ => ⟨fun _ => ⟨fun z => absurd z (by decide), fun _ => ⟨fun _ => num 4 0 9 (by omega) (by omega) (by rw [if_neg (by omega)]) (by rw [if_neg (by omega)]), fun z => absurd z (by decide)⟩⟩, fun z => absurd z (by decide)⟩, fun z => absurd z (by decide)⟩, fun e => ⟨fun _ => ⟨fun _ => ⟨fun z => absurd z (by decide), fun _ => ⟨fun _ => num 5 0 9 (by omega) (by omega) (by rw [if_neg (by omega)]) (by rw [if_neg (by omega)]), fun z => absurd z (by decide)⟩⟩, fun z => absurd z (by decide)⟩, fun z => absurd z (by decide)⟩, fun e => ⟨fun _ => ⟨fun z => absurd rfl z, fun _ => ?_⟩, fun z => absurd z (by decide)⟩, fun e => ⟨fun z => absurd rfl z, fun _ => s_failL hs (by decide) (fun τ hF hf h7 => o (by omega) τ hF hf h7)⟩⟩
  -- says
  obtain ⟨v1, v2, v3, v4, v5, v6⟩ := id u1
  refine c_Rdr_takeSaying (b_Rdr_takeSaying_0 ?_)
  rw [v4, v1]
  have yes : ∀ v : Int, v ≠ 0 → (kd (i + 1) = 212 ∧ v = 1 ∨ kd (i + 1) = 213 ∧ v = 2) → Z E y_Rdr_takeSaying (d - 1) 39 [some (vr 64), none] [vi v] (up σ 64 6 (i + 1)) (qi fun x2 τ2 => Z E y_Rdr_readFlag d 79 [some (vr 64), some (vi (7 * k)), some (vi 6), some (vi x2), none] [] τ2 (qv K)) := by
    intro v hv hc
    have il : i + 1 < N := kd_lt hT ⟨by omega, by omega⟩ (by omega)
    refine b_Rdr_takeSaying_39 (by omega) ⟨fun _ => ?_, fun z => absurd z hv⟩
    rw [v4, wid (x := i + 1 + 1) (by omega) (by omega)]
    refine last 6 v _ _ (by omega) (y 6 v _ (Or.inr ⟨e, rfl, hc⟩) (by omega) (f1.up (by simp)) ?_)
    have := u1.u6 (i := i + 1 + 1) (by omega); rw [show i + 1 + 1 = i + 2 by omega] at this ⊢; exact this
  refine ⟨⟨by omega, by omega⟩, fun n2 => ⟨fun n3 => b_Rdr_takeSaying_39 (by omega) ⟨fun z => absurd rfl z, fun _ => s_failL u1 (by decide) (fun τ hF hf h7 => last 6 0 τ _ (by omega) (z 2 (i + 1) _ (by decide) (fun F U => ?_) (((f1.wk (by decide)).tr (hF.wk (by decide))).up (by decide)) (fun T => (hf T).uc (by decide)) (by rw [up_nc (by decide)]; exact h7)))⟩, fun e3 => yes 2 (by decide) (Or.inr ⟨e3, rfl⟩)⟩, fun e2 => yes 1 (by decide) (Or.inl ⟨e2, rfl⟩)⟩
  show (if 207 ≤ kd i ∧ kd i ≤ 210 then _ else if kd i = 211 then _ else _) = _
  rw [if_neg (by omega), if_pos e, if_neg n2, if_neg n3]
theorem s_readLetter {d : Nat} {σ : Mem} {K : Int → Mem → Prop} {j : Int} {T : TB} (hd : 3 ≤ d) (hT : TokOK t n N kd st vl en) (hs : CN kd st vl N σ j T) (hj : j < N) (q : ∀ x τ, LO kd st vl N σ τ x j (pLetter kd vl j T) → K x τ) : CI E y_Rdr_readLetter d [vr 64] σ K := by
  obtain ⟨h0, hD, hQ⟩ := hs
  have s6 := h0.2.2.2.2.2
  have e3 : σ 14 3 = T 4 := hD.1.2.2.2.1
  have e2 : σ 14 2 = T 3 := hD.1.2.2.1
  have q4 := hQ.1.2.2.2.1
  have q3 := hQ.1.2.2.1
  have q2 := hQ.1.2.1
  have q6 := hQ.1.2.2.2.2.2.1
  refine c_Rdr_readLetter (b_Rdr_readLetter_0 (by omega) ?_)
  rw [e3, e2, h0.2.2.2.1, wid (x := j + 1) (by omega) (by omega), wid (x := T 3 - 1) (by omega) (by omega)]
  refine ⟨fun lt => ?_, fun ge => s_failL h0 (by decide) (fun τ hF hf h7 => ⟨Or.inl rfl, q 0 τ ?_⟩)⟩
  · have ix : ∀ w : Int, 0 ≤ w → w < 7 → w32 (w32 (T 4 * 7) + w) = 7 * T 4 + w := fun w w0 w1 => by rw [wid (x := T 4 * 7) (by omega) (by omega), wid (by omega) (by omega)]; omega
    have i7 : w32 (T 4 * 7) = 7 * T 4 := by rw [wid (by omega) (by omega)]; omega
    rw [ix 0 (by omega) (by omega), ix 1 (by omega) (by omega), ix 2 (by omega) (by omega), ix 3 (by omega) (by omega), i7]
    have er : pLetter kd vl j T = numP kd vl 0 (T 3 - 1) (j + 1) T (fun v i => if kd i = 206 then numP kd vl 0 3 (i + 1) T (fun w i2 => pFl kd vl 1000 i2 (ltP T v w)) else fP kd 2 i T) := by unfold pLetter; rw [if_neg (by omega)]
    rw [er] at q
    have dead : ∀ (τ : Mem) (a : Int) (o1 : Option AV), τ 64 7 ≠ 0 → K 0 (up τ 14 3 (w32 (τ 14 3 + 1))) → Z E y_Rdr_readLetter d 122 [some (vr 64), o1, some (vi (7 * T 4)), some (vi a)] [] τ (qi K) := by
      intro τ a o1 h7 hk
      have d1 : Z E y_Rdr_readLetter d 162 [some (vr 64), o1, some (vi (7 * T 4)), some (vi a)] [] τ (qi K) := b_Rdr_readLetter_162 ⟨fun _ => hk, fun z => absurd z h7⟩
      exact b_Rdr_readLetter_122 (by omega) ⟨fun _ => d1, fun _ => ⟨fun _ => d1, fun z => absurd z h7⟩⟩
    have loop : ∀ (F : Nat) (i a : Int) (U : TB) (τ : Mem) (o1 : Option AV), N < i + F → (0 ≤ a ∧ a < i) → Fr rdC σ τ → C0 kd st vl N τ i → DR τ U → U 4 = T 4 → LF U (T 4) → (∀ y : Int, (y < 37 ∨ 79 ≤ y ∨ (y - 37 - T 4) % 6 ≠ 0) → U y = T y) → j < i → (∀ x τ2, LO kd st vl N σ τ2 x j (pFl kd vl F i U) → K x τ2) → Z E y_Rdr_readLetter d 122 [some (vr 64), o1, some (vi (7 * T 4)), some (vi a)] [] τ (qi K) := by
      intro F
      induction F with
      | zero => intro i a U τ o1 hN ha hF hc; have := hc.2.2.2.2.2; intros; omega
      | succ F ih =>
        intro i a U τ o1 hN ha hF hc hDu u4 hL hU hji qq
        have c6 := hc.2.2.2.2.2
        have fin : ¬ (207 ≤ kd i ∧ kd i ≤ 211) → pFl kd vl (F + 1) i U = (0, i, upT U 4 (U 4 + 1)) := fun hno => by
          show (if 207 ≤ kd i ∧ kd i ≤ 210 then _ else if kd i = 211 then _ else _) = _
          rw [if_neg (by omega), if_neg (by omega)]
        refine b_Rdr_readLetter_122 (by omega) ⟨fun z => absurd z (by omega), fun _ => ⟨fun z => absurd hc.2.2.2.2.1 z, fun _ => ?_⟩⟩
        rw [hc.2.2.2.1, hc.1]
        refine ⟨⟨by omega, by omega⟩, fun lt2 => b_Rdr_readLetter_162 ⟨fun z => absurd hc.2.2.2.2.1 z, fun _ => qq 1 _ ?_⟩, fun ge2 => ?_⟩
        · rw [fin (by omega)]
          have t14 : τ 14 3 = T 4 := by rw [hDu.1.2.2.2.1]; exact u4
          rw [t14, wid (x := T 4 + 1) (by omega) (by omega), u4]
          refine ⟨hF.up (by decide), fun _ => Or.inl ⟨rfl, ⟨hc.uc (by omega), hDu.num (by omega), hQ.lt (by show j ≤ i; omega) lt (show upT U 4 (T 4 + 1) 4 = T 4 + 1 from upT_s) ?_ (fun y p r => ?_)⟩, hji⟩, fun z => absurd rfl z⟩
          · have g : ∀ y : Int, y ≠ 4 → upT U 4 (T 4 + 1) y = U y := fun y hy => upT_n hy
            show LF (upT U 4 (T 4 + 1)) (T 4)
            unfold LF
            rw [g _ (by omega), g 3 (by omega), g _ (by omega), g _ (by omega), g _ (by omega), g _ (by omega), g _ (by omega), g _ (by omega)]; exact hL
          · show upT U 4 (T 4 + 1) y = T y
            rw [upT_n p]; exact hU y r
        · have il : i < N := kd_lt hT ⟨c6.1, c6.2.1⟩ (by omega)
          refine s_readFlag (by omega) hT hc il ⟨q4.1, lt⟩ (fun w v υ hy h2 hF2 hc2 => ?_) (fun f i2 υ hf hp hF2 hfl h7 => dead _ _ _ h7 (qq 0 _ ?_)) (fun hno υ hF2 hfl h7 => dead _ _ _ h7 (qq 0 _ ?_))
          · rw [hy.p F U] at qq
            rw [wid (x := a + 1) (by omega) (by omega)]
            have hb := hy.b
            have hDv : DR υ U := hDu.fr (fun c hc3 => hF2.one (by intro z; subst z; simp at hc3))
            have u2 := hU 2 (by omega)
            have u3 := hU 3 (by omega)
            have uu6 := hU 6 (by omega)
            have hD3 := hDv.fact (v := v) (k := T 4) (w := w) ⟨by omega, by omega, by omega⟩ ⟨q4.1, lt⟩ ⟨by omega, by omega⟩
            rw [u4] at qq
            refine ih (i + 2) (a + 1) _ _ _ (by omega) (by omega) ((hF.tr (hF2.wk (by decide))).up (by decide)) (hc2.uc (by omega)) hD3 ?_ (hL.up ⟨q4.1, lt⟩ hb.1 hb.2.1 hb.2.2.1 hb.2.2.2.1 hb.2.2.2.2) (fun y hy => ?_) (by omega) qq
            · rw [upT_n (by omega)]; exact u4
            · rw [upT_n (by omega)]; exact hU y hy
          · rw [hp F U]
            exact LO.flt ((hF.tr (hF2.wk (by decide))).up (by decide)) hf ((hfl U).uc (by decide))
          · rw [fin hno]
            refine ⟨(hF.tr (hF2.wk (by decide))).up (by decide), fun _ => Or.inr ⟨rfl, ?_, (hfl _).uc (by decide)⟩, fun z => absurd rfl z⟩
            show kd i ≠ 59; omega
    refine s_takeNumber (by omega) hT (h0.u6 (i := j + 1) (by omega)) (fun n1 n2 n3 jl => ⟨by omega, ?_⟩) (fun f υ hf hn hF2 hfl h7 => ⟨by omega, fun _ => q 0 _ ?_, fun z => absurd z h7⟩)
    · rw [numP_y n1 n2 n3] at q
      have f7 : up (up σ 64 6 (j + 1)) 64 6 (j + 1 + 1) 64 7 = 0 := by rw [up_nk (by decide), up_nk (by decide)]; exact h0.2.2.2.2.1
      have c2 := (h0.u6 (i := j + 1) (by omega)).u6 (i := j + 1 + 1) (by omega)
      have d2 : DR (up (up σ 64 6 (j + 1)) 64 6 (j + 1 + 1)) T := hD.c64.c64
      have fr2 : Fr rdC σ (up (up σ 64 6 (j + 1)) 64 6 (j + 1 + 1)) := (Fr.rf.up (by decide)).up (by decide)
      generalize up (up σ 64 6 (j + 1)) 64 6 (j + 1 + 1) = υ at f7 c2 d2 fr2 ⊢
      refine ⟨fun z => absurd f7 z, fun _ => s_takeToken (by omega) hT (c2.uc (by omega)) (by decide) (fun e jl2 => ⟨fun _ => ?_, fun z => absurd z (by decide)⟩) (fun ne τ hF hf h7 => ⟨fun z => absurd rfl z, fun _ => q 0 τ ?_⟩)⟩
      · rw [if_pos e] at q
        refine s_takeNumber (by omega) hT ((c2.uc (by omega)).u6 (i := j + 1 + 1 + 1) (by omega)) (fun m1 m2 m3 jl3 => ⟨by omega, by omega, by omega, ?_⟩) (fun f υ2 hf hn hF2 hfl h7 => ⟨by omega, by omega, by omega, dead _ _ _ (by rw [up_nc (by decide), up_nc (by decide), up_nc (by decide)]; exact h7) (q 0 _ ?_)⟩)
        · rw [numP_y m1 m2 m3] at q
          have b : T 2 ≤ 3 ∧ T 3 ≤ 4 ∧ T 6 ≤ 8 := ⟨by omega, by omega, by omega⟩
          have hk : 0 ≤ T 4 ∧ T 4 < 6 := ⟨q4.1, lt⟩
          have g1 := (d2.fact (v := vl (j + 1)) (w := 0) b hk (by omega)).c64 (k := 6) (v := j + 1 + 1 + 1)
          have g2 := g1.c64 (k := 6) (v := j + 1 + 1 + 1 + 1)
          have nn : ∀ (V : TB) (x v : Int), 37 ≤ x → (V 2 ≤ 3 ∧ V 3 ≤ 4 ∧ V 6 ≤ 8) → (upT V x v 2 ≤ 3 ∧ upT V x v 3 ≤ 4 ∧ upT V x v 6 ≤ 8) := fun V x v hx h => by rw [upT_n (by omega), upT_n (by omega), upT_n (by omega)]; exact h
          have b1 := nn T (37 + 6 * 0 + T 4) (vl (j + 1)) (by omega) b
          have g3 := g2.fact (v := vl (j + 1 + 1 + 1)) (w := 1) b1 hk (by omega)
          have b2 := nn _ (37 + 6 * 1 + T 4) (vl (j + 1 + 1 + 1)) (by omega) b1
          have g4 := g3.fact (v := 1) (w := 2) b2 hk (by omega)
          have b3 := nn _ (37 + 6 * 2 + T 4) 1 (by omega) b2
          have g5 := g4.fact (v := 1) (w := 3) b3 hk (by omega)
          have lt_e : upT (upT (upT (upT T (37 + 6 * 0 + T 4) (vl (j + 1))) (37 + 6 * 1 + T 4) (vl (j + 1 + 1 + 1))) (37 + 6 * 2 + T 4) 1) (37 + 6 * 3 + T 4) 1 = ltP T (vl (j + 1)) (vl (j + 1 + 1 + 1)) := by
            unfold ltP
            rw [show 37 + 6 * 0 + T 4 = 37 + T 4 by omega, show 37 + 6 * 1 + T 4 = 43 + T 4 by omega, show 37 + 6 * 2 + T 4 = 49 + T 4 by omega, show 37 + 6 * 3 + T 4 = 55 + T 4 by omega]
          rw [lt_e] at g5
          have gl : ∀ y : Int, y ≠ 37 + T 4 → y ≠ 43 + T 4 → y ≠ 49 + T 4 → y ≠ 55 + T 4 → ltP T (vl (j + 1)) (vl (j + 1 + 1 + 1)) y = T y := fun y a b c e => by unfold ltP; rw [upT_n e, upT_n c, upT_n b, upT_n a]
          refine loop 1000 (j + 1 + 1 + 1 + 1) 0 _ _ _ (by omega) (by omega) ((((((fr2.up (by decide)).up (by decide)).up (by decide)).up (by decide)).up (by decide)).up (by decide)) ((((((c2.uc (by omega)).u6 (i := j + 1 + 1 + 1) (by omega)).u6 (i := j + 1 + 1 + 1 + 1) (by omega)).uc (by omega)).uc (by omega)).uc (by omega)) g5 (gl 4 (by omega) (by omega) (by omega) (by omega)) ?_ (fun y hy => gl y (by omega) (by omega) (by omega) (by omega)) (by omega) q
          have r1 : ltP T (vl (j + 1)) (vl (j + 1 + 1 + 1)) (37 + T 4) = vl (j + 1) := by unfold ltP; rw [upT_n (by omega), upT_n (by omega), upT_n (by omega), upT_s]
          have r2 : ltP T (vl (j + 1)) (vl (j + 1 + 1 + 1)) (43 + T 4) = vl (j + 1 + 1 + 1) := by unfold ltP; rw [upT_n (by omega), upT_n (by omega), upT_s]
          have r3 : ltP T (vl (j + 1)) (vl (j + 1 + 1 + 1)) (49 + T 4) = 1 := by unfold ltP; rw [upT_n (by omega), upT_s]
          have r4 : ltP T (vl (j + 1)) (vl (j + 1 + 1 + 1)) (55 + T 4) = 1 := upT_s
          unfold LF
          rw [r1, r2, r3, r4, gl 3 (by omega) (by omega) (by omega) (by omega), gl _ (by omega) (by omega) (by omega) (by omega), gl _ (by omega) (by omega) (by omega) (by omega), gl _ (by omega) (by omega) (by omega) (by omega)]
          have z5 := hQ.2.2.2.2.2 (T 4) (Int.le_refl _) lt
          exact ⟨⟨n2, by omega⟩, ⟨m2, m3⟩, by omega, by omega, by omega, by omega, by omega⟩
        · rw [hn]
          exact LO.flt ((((((fr2.up (by decide)).up (by decide)).tr (hF2.wk (by decide))).up (by decide)).up (by decide)).up (by decide) |>.up (by decide)) hf (((((hfl T).uc (by decide)).uc (by decide)).uc (by decide)).uc (by decide))
      · rw [if_neg ne]
        exact LO.flt ((fr2.up (by decide)).tr (hF.wk (by decide))) (by decide) (hf T)
    · rw [hn]
      exact LO.flt (((Fr.rf.up (by decide)).tr (hF2.wk (by decide))).up (by decide)) hf ((hfl T).uc (by decide))
  · have er : pLetter kd vl j T = fP kd 4 j T := by unfold pLetter; rw [if_pos (by omega)]
    rw [er]; exact LO.flt (hF.wk (by decide)) (by decide) (hf T)
end
