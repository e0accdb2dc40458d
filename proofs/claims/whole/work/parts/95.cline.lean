/-! the reader under test: lines -/
/-- the draft tells what the table T tells, but for what the laws give -/
def DR (σ : Mem) (T : TB) : Prop := (σ 14 0 = T 1 ∧ σ 14 1 = T 2 ∧ σ 14 2 = T 3 ∧ σ 14 3 = T 4 ∧ σ 14 4 = T 0 ∧ σ 14 5 = T 5 ∧ σ 14 6 = T 6 ∧ σ 14 18 = 0) ∧ ((∀ h : Int, 0 ≤ h → h < T 2 → σ 15 h = T (27 + h) ∧ σ 16 h = T (30 + h)) ∧ ∀ h : Int, T 2 ≤ h → h < 3 → σ 16 h = 0) ∧ (∀ c : Int, 0 ≤ c → c < T 3 → σ 17 c = T (33 + c)) ∧ (∀ k w : Int, 0 ≤ k → k < 6 → 0 ≤ w → w < 7 → σ 18 (7 * k + w) = T (37 + 6 * w + k)) ∧ (∀ i : Int, 0 ≤ i → i < T 6 → σ 19 i = T (19 + i)) ∧ DL σ T ∧ ∀ l : Int, 0 ≤ l → l < 4 → (T (7 + l) = 1 → σ 70 l = T (11 + l) ∧ σ 71 l = T (11 + l) + T (15 + l)) ∧ (T (7 + l) ≠ 1 → σ 70 l = 0 ∧ σ 71 l = 0)
theorem DR.fr {σ τ : Mem} {T : TB} (h : DR σ T) (e : ∀ c, c ∈ [14, 15, 16, 17, 18, 19, 68, 69, 70, 71] → τ c = σ c) : DR τ T := by
  unfold DR DL at h ⊢
  rw [e 14 (by decide), e 15 (by decide), e 16 (by decide), e 17 (by decide), e 18 (by decide), e 19 (by decide), e 68 (by decide), e 69 (by decide), e 70 (by decide), e 71 (by decide)]
  exact h
theorem DR.c64 {σ : Mem} {T : TB} {k v : Int} (h : DR σ T) : DR (up σ 64 k v) T := h.fr (fun c hc => up_cell (by intro z; subst z; simp at hc))
/-- a fact of a letter -/
theorem DR.fact {σ : Mem} {T : TB} {k w v : Int} (h : DR σ T) (hb : T 2 ≤ 3 ∧ T 3 ≤ 4 ∧ T 6 ≤ 8) (hk : 0 ≤ k ∧ k < 6) (hw : 0 ≤ w ∧ w < 7) : DR (up σ 18 (7 * k + w) v) (upT T (37 + 6 * w + k) v) := by
  have e : ∀ c, c ≠ 18 → up σ 18 (7 * k + w) v c = σ c := fun c hc => up_cell hc
  have g : ∀ y : Int, y < 37 ∨ 79 ≤ y → upT T (37 + 6 * w + k) v y = T y := fun y hy => upT_n (by omega)
  obtain ⟨a1, a2, a3, a4, a5, a6, a7⟩ := h
  refine ⟨?_, ⟨fun y y0 y1 => ?_, fun y y0 y1 => ?_⟩, fun y y0 y1 => ?_, fun k2 w2 k0 k1 w0 w1 => ?_, fun y y0 y1 => ?_, ⟨?_, fun y y0 y1 => ?_⟩, fun y y0 y1 => ?_⟩
  · rw [e 14 (by decide), g 1 (by omega), g 2 (by omega), g 3 (by omega), g 4 (by omega), g 0 (by omega), g 5 (by omega), g 6 (by omega)]; exact a1
  · rw [g 2 (by omega)] at y1; rw [e 15 (by decide), e 16 (by decide), g _ (by omega), g _ (by omega)]; exact a2.1 y y0 y1
  · rw [g 2 (by omega)] at y0; rw [e 16 (by decide)]; exact a2.2 y y0 y1
  · rw [g 3 (by omega)] at y1; rw [e 17 (by decide), g _ (by omega)]; exact a3 y y0 y1
  · by_cases z : k2 = k ∧ w2 = w
    · rw [z.1, z.2, up_same, upT_s]
    · rw [up_nk (by omega), upT_n (by omega)]; exact a4 k2 w2 k0 k1 w0 w1
  · rw [g 6 (by omega)] at y1; rw [e 19 (by decide), g _ (by omega)]; exact a5 y y0 y1
  · rw [e 68 (by decide), g 135 (by omega)]; exact a6.1
  · rw [g 135 (by omega)] at y1; rw [e 69 (by decide), g _ (by omega)]; exact a6.2 y y0 y1
  · rw [e 70 (by decide), e 71 (by decide), g _ (by omega), g _ (by omega), g _ (by omega)]; exact a7 y y0 y1
/-- a number of the room itself -/
theorem DR.num {σ : Mem} {T : TB} {x v k : Int} (h : DR σ T) (hx : (x = 1 ∧ k = 0) ∨ (x = 4 ∧ k = 3) ∨ (x = 0 ∧ k = 4) ∨ (x = 5 ∧ k = 5)) : DR (up σ 14 k v) (upT T x v) := by
  have e : ∀ c, c ≠ 14 → up σ 14 k v c = σ c := fun c hc => up_cell hc
  have g : ∀ y : Int, y ≠ x → upT T x v y = T y := fun y hy => upT_n hy
  obtain ⟨a1, a2, a3, a4, a5, a6, a7⟩ := h
  refine ⟨?_, ⟨fun y y0 y1 => ?_, fun y y0 y1 => ?_⟩, fun y y0 y1 => ?_, fun k2 w2 k0 k1 w0 w1 => ?_, fun y y0 y1 => ?_, ⟨?_, fun y y0 y1 => ?_⟩, fun y y0 y1 => ?_⟩
  · have p : ∀ i y : Int, (i = k ↔ y = x) → σ 14 i = T y → up σ 14 k v 14 i = upT T x v y := fun i y hi he => by
      by_cases z : i = k
      · rw [z, hi.mp z, up_same, upT_s]
      · rw [up_nk z, upT_n (fun q => z (hi.mpr q))]; exact he
    exact ⟨p 0 1 (by omega) a1.1, p 1 2 (by omega) a1.2.1, p 2 3 (by omega) a1.2.2.1, p 3 4 (by omega) a1.2.2.2.1, p 4 0 (by omega) a1.2.2.2.2.1, p 5 5 (by omega) a1.2.2.2.2.2.1, p 6 6 (by omega) a1.2.2.2.2.2.2.1, by rw [up_nk (by omega)]; exact a1.2.2.2.2.2.2.2⟩
  · rw [g 2 (by omega)] at y1; rw [e 15 (by decide), e 16 (by decide), g _ (by omega), g _ (by omega)]; exact a2.1 y y0 y1
  · rw [g 2 (by omega)] at y0; rw [e 16 (by decide)]; exact a2.2 y y0 y1
  · rw [g 3 (by omega)] at y1; rw [e 17 (by decide), g _ (by omega)]; exact a3 y y0 y1
  · rw [e 18 (by decide), g _ (by omega)]; exact a4 k2 w2 k0 k1 w0 w1
  · rw [g 6 (by omega)] at y1; rw [e 19 (by decide), g _ (by omega)]; exact a5 y y0 y1
  · rw [e 68 (by decide), g 135 (by omega)]; exact a6.1
  · rw [g 135 (by omega)] at y1; rw [e 69 (by decide), g _ (by omega)]; exact a6.2 y y0 y1
  · rw [e 70 (by decide), e 71 (by decide), g _ (by omega), g _ (by omega), g _ (by omega)]; exact a7 y y0 y1
/-- a court more -/
theorem DR.ct {υ : Mem} {T : TB} {v : Int} (h : DR υ T) (hQ : MT T) (h3 : T 3 < 4) : DR (up (up υ 17 (T 3) v) 14 2 (T 3 + 1)) (ctP T v) := by
  obtain ⟨a1, a2, a3, a4, a5, a6, a7⟩ := h
  have g : ∀ y : Int, y ≠ 3 → y ≠ 33 + T 3 → ctP T v y = T y := fun y p r => by unfold ctP; rw [upT_n p, upT_n r]
  have b2 := hQ.2.1
  have b3 := hQ.2.2.1
  have b6 := hQ.2.2.2.2.2.1
  have g3 : ctP T v 3 = T 3 + 1 := upT_s
  have g33 : ctP T v (33 + T 3) = v := by unfold ctP; rw [upT_n (by omega), upT_s]
  have u : ∀ c, c ≠ 14 → c ≠ 17 → up (up υ 17 (T 3) v) 14 2 (T 3 + 1) c = υ c := fun c p r => by rw [up_cell p, up_cell r]
  refine ⟨?_, ⟨fun y y0 y1 => ?_, fun y y0 y1 => ?_⟩, fun y y0 y1 => ?_, fun k2 w2 k0 k1 w0 w1 => ?_, fun y y0 y1 => ?_, ⟨?_, fun y y0 y1 => ?_⟩, fun y y0 y1 => ?_⟩
  · have p : ∀ i : Int, i ≠ 2 → up (up υ 17 (T 3) v) 14 2 (T 3 + 1) 14 i = υ 14 i := fun i hi => by rw [up_nk hi, up_nc (by decide)]
    rw [p 0 (by decide), p 1 (by decide), up_same, p 3 (by decide), p 4 (by decide), p 5 (by decide), p 6 (by decide), p 18 (by decide), g 1 (by omega) (by omega), g 2 (by omega) (by omega), g3, g 4 (by omega) (by omega), g 0 (by omega) (by omega), g 5 (by omega) (by omega), g 6 (by omega) (by omega)]
    exact ⟨a1.1, a1.2.1, rfl, a1.2.2.2⟩
  · rw [g 2 (by omega) (by omega)] at y1; rw [u 15 (by decide) (by decide), u 16 (by decide) (by decide), g _ (by omega) (by omega), g _ (by omega) (by omega)]; exact a2.1 y y0 y1
  · rw [g 2 (by omega) (by omega)] at y0; rw [u 16 (by decide) (by decide)]; exact a2.2 y y0 y1
  · rw [g3] at y1
    by_cases z : y = T 3
    · rw [z, up_nc (by decide), up_same, g33]
    · rw [up_nc (by decide), up_nk z, g _ (by omega) (by omega)]; exact a3 y y0 (by omega)
  · rw [u 18 (by decide) (by decide), g _ (by omega) (by omega)]; exact a4 k2 w2 k0 k1 w0 w1
  · rw [g 6 (by omega) (by omega)] at y1; rw [u 19 (by decide) (by decide), g _ (by omega) (by omega)]; exact a5 y y0 y1
  · rw [u 68 (by decide) (by decide), g 135 (by omega) (by omega)]; exact a6.1
  · rw [g 135 (by omega) (by omega)] at y1; rw [u 69 (by decide) (by decide), g _ (by omega) (by omega)]; exact a6.2 y y0 y1
  · rw [u 70 (by decide) (by decide), u 71 (by decide) (by decide), g _ (by omega) (by omega), g _ (by omega) (by omega), g _ (by omega) (by omega)]; exact a7 y y0 y1
def rdC : List Nat := [14, 15, 16, 17, 18, 19, 64, 68, 69, 70, 71]
section
variable {E : EN} {t : Int → Int} {n N : Int} {kd st vl en : Int → Int}
def C0 (kd st vl : Int → Int) (N : Int) (σ : Mem) (j : Int) : Prop := σ 65 = kd ∧ σ 66 = st ∧ σ 67 = vl ∧ σ 64 6 = j ∧ σ 64 7 = 0 ∧ (0 ≤ j ∧ j ≤ N ∧ N ≤ 900 ∧ σ 64 8 = -1)
theorem C0.u6 {σ : Mem} {j i : Int} (h : C0 kd st vl N σ j) (hi : 0 ≤ i ∧ i ≤ N) : C0 kd st vl N (up σ 64 6 i) i := by
  obtain ⟨s1, s2, s3, s4, s5, s6⟩ := h
  exact ⟨by rw [up_cell (by decide)]; exact s1, by rw [up_cell (by decide)]; exact s2, by rw [up_cell (by decide)]; exact s3, up_same _ _ _ _, by rw [up_nk (by decide)]; exact s5, ⟨hi.1, hi.2, s6.2.2.1, by rw [up_nk (by decide)]; exact s6.2.2.2⟩⟩
theorem C0.uc {σ : Mem} {j k v : Int} {c : Nat} (h : C0 kd st vl N σ j) (hc : c < 64 ∨ 67 < c) : C0 kd st vl N (up σ c k v) j := by
  obtain ⟨s1, s2, s3, s4, s5, s6⟩ := h
  exact ⟨by rw [up_cell (by omega)]; exact s1, by rw [up_cell (by omega)]; exact s2, by rw [up_cell (by omega)]; exact s3, by rw [up_nc (by omega)]; exact s4, by rw [up_nc (by omega)]; exact s5, ⟨s6.1, s6.2.1, s6.2.2.1, by rw [up_nc (by omega)]; exact s6.2.2.2⟩⟩
/-- the fault that r tells -/
def Flt (st : Int → Int) (τ : Mem) (r : Rs) : Prop := τ 64 7 = r.1 ∧ τ 64 8 = st r.2.1
theorem Flt.uc {τ : Mem} {r : Rs} {c : Nat} {k v : Int} (h : Flt st τ r) (hc : c ≠ 64) : Flt st (up τ c k v) r := ⟨by rw [up_nc (by omega)]; exact h.1, by rw [up_nc (by omega)]; exact h.2⟩
theorem s_failL {d : Nat} {σ : Mem} {K : Int → Mem → Prop} {f j : Int} (hs : C0 kd st vl N σ j) (hf : f ≠ 0) (q : ∀ τ, Fr [64] σ τ → (∀ T : TB, Flt st τ (fP kd f j T)) → τ 64 7 ≠ 0 → K 0 τ) : CI E y_Rdr_fail d [vr 64, vi f] σ K := by
  obtain ⟨s1, s2, s3, s4, s5, s6⟩ := hs
  refine s_Rdr_fail s1 s2 s4 ⟨by omega, by omega⟩ (fun τ e => q τ ?_ (fun T => ⟨?_, ?_⟩) ?_)
  · rw [e]; exact (Fr.rf.up (by simp)).up (by simp)
  · rw [e, up_nk (by decide), up_same]; rfl
  · rw [e, up_same]; rfl
  · rw [e, up_nk (by decide), up_same]; exact fP_n (kd := kd) (j := j) (T := fun _ => 0) hf
theorem s_takeToken {d : Nat} {σ : Mem} {K : Int → Mem → Prop} {k j : Int} (hd : 1 ≤ d) (hT : TokOK t n N kd st vl en) (hs : C0 kd st vl N σ j) (hk : k ≠ 0) (k1 : kd j = k → j < N → K 1 (up σ 64 6 (j + 1))) (k0 : kd j ≠ k → ∀ τ, Fr [64] σ τ → (∀ T : TB, Flt st τ (fP kd 2 j T)) → τ 64 7 ≠ 0 → K 0 τ) : CI E y_Rdr_takeToken d [vr 64, vi k] σ K := by
  obtain ⟨s1, s2, s3, s4, s5, s6⟩ := id hs
  refine c_Rdr_takeToken (b_Rdr_takeToken_0 hd ?_)
  rw [s4, s1]
  refine ⟨⟨by omega, by omega⟩, fun e => ?_, fun ne => s_failL hs (by decide) (fun τ hF hf h7 => ⟨Or.inl rfl, k0 ne τ hF hf h7⟩)⟩
  have jl : j < N := kd_lt hT ⟨s6.1, s6.2.1⟩ (by rw [e]; exact hk)
  rw [wid (x := j + 1) (by omega) (by omega)]
  exact k1 e jl
theorem s_takeNumber {d : Nat} {σ : Mem} {K : Int → Mem → Prop} {lo hi j : Int} (hd : 1 ≤ d) (hT : TokOK t n N kd st vl en) (hs : C0 kd st vl N σ j) (k1 : kd j = 1 → lo ≤ vl j → vl j ≤ hi → j < N → K (vl j) (up σ 64 6 (j + 1))) (k0 : ∀ f τ, f ≠ 0 → (∀ T k, numP kd vl lo hi j T k = fP kd f j T) → Fr [64] σ τ → (∀ T : TB, Flt st τ (fP kd f j T)) → τ 64 7 ≠ 0 → K 0 τ) : CI E y_Rdr_takeNumber d [vr 64, vi lo, vi hi] σ K := by
  obtain ⟨s1, s2, s3, s4, s5, s6⟩ := id hs
  refine c_Rdr_takeNumber (b_Rdr_takeNumber_0 hd ?_)
  rw [s4, s1, s3]
  refine ⟨⟨by omega, by omega⟩, fun e => ⟨fun lt => s_failL hs (by decide) (fun τ hF hf h7 => k0 3 τ (by decide) (fun T k => ?_) hF hf h7), fun ge => ⟨fun le => ?_, fun gt => s_failL hs (by decide) (fun τ hF hf h7 => k0 3 τ (by decide) (fun T k => ?_) hF hf h7)⟩⟩, fun ne => s_failL hs (by decide) (fun τ hF hf h7 => k0 2 τ (by decide) (fun T k => ?_) hF hf h7)⟩
  · unfold numP; rw [if_pos e, if_neg (by omega)]
  · have jl : j < N := kd_lt hT ⟨s6.1, s6.2.1⟩ (by omega)
    rw [wid (x := j + 1) (by omega) (by omega)]
    exact k1 e ge le jl
  · unfold numP; rw [if_pos e, if_neg (by omega)]
  · unfold numP; rw [if_neg ne]
theorem numP_y {lo hi j : Int} {T : TB} {k : Int → Int → Rs} (h1 : kd j = 1) (h2 : lo ≤ vl j) (h3 : vl j ≤ hi) : numP kd vl lo hi j T k = k (vl j) (j + 1) := by unfold numP; rw [if_pos h1, if_pos ⟨h2, h3⟩]
def CN (kd st vl : Int → Int) (N : Int) (σ : Mem) (j : Int) (T : TB) : Prop := C0 kd st vl N σ j ∧ DR σ T ∧ QT j T
/-- how a line ends -/
def LO (kd st vl : Int → Int) (N : Int) (σ τ : Mem) (x j : Int) (r : Rs) : Prop := Fr rdC σ τ ∧ (r.1 = 0 → (x = 1 ∧ CN kd st vl N τ r.2.1 r.2.2 ∧ j < r.2.1) ∨ (x = 0 ∧ kd r.2.1 ≠ 59 ∧ Flt st τ (fP kd 2 r.2.1 r.2.2))) ∧ (r.1 ≠ 0 → x = 0 ∧ Flt st τ r)
theorem LO.flt {σ τ : Mem} {j f i : Int} {T : TB} (hF : Fr rdC σ τ) (hf : f ≠ 0) (h : Flt st τ (fP kd f i T)) : LO kd st vl N σ τ 0 j (fP kd f i T) := ⟨hF, fun z => absurd z (fP_n hf), fun _ => ⟨rfl, h⟩⟩
theorem C0.fr {σ τ : Mem} {j : Int} (h : C0 kd st vl N σ j) (hF : ∀ c, 64 ≤ c → c ≤ 67 → τ c = σ c) : C0 kd st vl N τ j := by
  obtain ⟨s1, s2, s3, s4, s5, s6⟩ := h
  exact ⟨by rw [hF 65 (by decide) (by decide)]; exact s1, by rw [hF 66 (by decide) (by decide)]; exact s2, by rw [hF 67 (by decide) (by decide)]; exact s3, by rw [hF 64 (by decide) (by decide)]; exact s4, by rw [hF 64 (by decide) (by decide)]; exact s5, ⟨s6.1, s6.2.1, s6.2.2.1, by rw [hF 64 (by decide) (by decide)]; exact s6.2.2.2⟩⟩
theorem s_readCourt {d : Nat} {σ : Mem} {K : Int → Mem → Prop} {j : Int} {T : TB} (hd : 2 ≤ d) (hT : TokOK t n N kd st vl en) (hs : CN kd st vl N σ j T) (hj : j < N) (q : ∀ x τ, LO kd st vl N σ τ x j (pCourt kd vl j T) → K x τ) : CI E y_Rdr_readCourt d [vr 64] σ K := by
  obtain ⟨h0, hD, hQ⟩ := hs
  have s6 := h0.2.2.2.2.2
  have e2 : σ 14 2 = T 3 := hD.1.2.2.1
  have q3 := hQ.1.2.2.1
  refine c_Rdr_readCourt (b_Rdr_readCourt_0 (by omega) ?_)
  rw [e2, h0.2.2.2.1, wid (x := j + 1) (by omega) (by omega)]
  refine ⟨fun lt => ?_, fun ge => s_failL h0 (by decide) (fun τ hF hf h7 => ⟨Or.inl rfl, q 0 τ ?_⟩)⟩
  · have er : pCourt kd vl j T = numP kd vl 0 100 (j + 1) T (fun v i => (0, i, ctP T v)) := by unfold pCourt; rw [if_neg (by omega)]
    rw [er] at q
    refine s_takeNumber (by omega) hT (h0.u6 (i := j + 1) (by omega)) (fun n1 n2 n3 jl => ⟨⟨q3.1, lt⟩, ?_⟩) (fun f τ hf hn hF hfl h7 => ⟨⟨q3.1, lt⟩, fun _ => q 0 _ ?_, fun z => absurd z h7⟩)
    · have f7 : up (up σ 64 6 (j + 1)) 64 6 (j + 1 + 1) 64 7 = 0 := by rw [up_nk (by decide), up_nk (by decide)]; exact h0.2.2.2.2.1
      refine ⟨fun z => absurd f7 z, fun _ => q 1 _ ?_⟩
      rw [numP_y n1 n2 n3]
      have e14 : up (up σ 64 6 (j + 1)) 64 6 (j + 1 + 1) 14 2 = T 3 := by rw [up_nc (by decide), up_nc (by decide)]; exact e2
      rw [e14, wid (x := T 3 + 1) (by omega) (by omega)]
      refine ⟨(((Fr.rf.up (by decide)).up (by decide)).up (by decide)).up (by decide), fun _ => Or.inl ⟨rfl, ⟨(((h0.u6 (i := j + 1) (by omega)).u6 (i := j + 1 + 1) (by omega)).uc (by omega)).uc (by omega), ?_, hQ.ct (by show j ≤ j + 1 + 1; omega) lt ⟨n2, n3⟩⟩, by show j < j + 1 + 1; omega⟩, fun z => absurd rfl z⟩
      exact hD.c64.c64.ct hQ.1 lt
    · rw [hn]
      exact LO.flt (((((Fr.rf.up (by decide)).tr (hF.wk (by decide)))).up (by decide)).up (by decide)) hf (((hfl T).uc (by decide)).uc (by decide))
  · have er : pCourt kd vl j T = fP kd 4 j T := by unfold pCourt; rw [if_pos (by omega)]
    rw [er]; exact LO.flt (hF.wk (by decide)) (by decide) (hf T)
theorem s_readPrior {d : Nat} {σ : Mem} {K : Int → Mem → Prop} {j : Int} {T : TB} (hd : 2 ≤ d) (hT : TokOK t n N kd st vl en) (hs : CN kd st vl N σ j T) (hj : j < N) (q : ∀ x τ, LO kd st vl N σ τ x j (pPrior kd vl j T) → K x τ) : CI E y_Rdr_readPrior d [vr 64] σ K := by
  obtain ⟨h0, hD, hQ⟩ := hs
  have s6 := h0.2.2.2.2.2
  refine c_Rdr_readPrior (b_Rdr_readPrior_0 (by omega) ?_)
  rw [h0.2.2.2.1, wid (x := j + 1) (by omega) (by omega)]
  unfold pPrior at q
  refine s_takeNumber (by omega) hT (h0.u6 (i := j + 1) (by omega)) (fun n1 n2 n3 jl => ?_) (fun f τ hf hn hF hfl h7 => ⟨fun _ => q 0 _ ?_, fun z => absurd z h7⟩)
  · have f7 : up (up σ 64 6 (j + 1)) 64 6 (j + 1 + 1) 64 7 = 0 := by rw [up_nk (by decide), up_nk (by decide)]; exact h0.2.2.2.2.1
    refine ⟨fun z => absurd f7 z, fun _ => q 1 _ ?_⟩
    rw [numP_y n1 n2 n3]
    exact ⟨((Fr.rf.up (by decide)).up (by decide)).up (by decide), fun _ => Or.inl ⟨rfl, ⟨((h0.u6 (i := j + 1) (by omega)).u6 (i := j + 1 + 1) (by omega)).uc (by omega), hD.c64.c64.num (by omega), hQ.set (by show j ≤ j + 1 + 1; omega) rfl (by omega) (fun z => absurd z (by decide)) (fun z => absurd z (by decide)) (fun _ => ⟨n2, n3⟩)⟩, by show j < j + 1 + 1; omega⟩, fun z => absurd rfl z⟩
  · rw [hn]
    exact LO.flt ((((Fr.rf.up (by decide)).tr (hF.wk (by decide)))).up (by decide)) hf ((hfl T).uc (by decide))
end
