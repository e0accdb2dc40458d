/-! what holds between two calls -/
/-- a room as the reference's table T tells it -/
def HR (σ : Mem) (r : Nat) (T : Int → Int) : Prop :=
  (σ r 0 = T 1 ∧ σ r 1 = T 2 ∧ σ r 2 = T 3 ∧ σ r 3 = T 4 ∧ σ r 4 = T 0 ∧ σ r 5 = T 5 ∧ σ r 6 = T 6) ∧
  (∀ h : Int, 0 ≤ h → h < T 2 → σ (r + 1) h = T (27 + h) ∧ σ (r + 2) h = T (30 + h)) ∧
  (∀ c : Int, 0 ≤ c → c < T 3 → σ (r + 3) c = T (33 + c)) ∧
  (∀ k w : Int, 0 ≤ k → k < T 4 → 0 ≤ w → w < 7 → σ (r + 4) (7 * k + w) = T (37 + 6 * w + k)) ∧
  (∀ i : Int, 0 ≤ i → i < T 6 → σ (r + 5) i = T (19 + i)) ∧
  (∀ k : Int, 0 ≤ k → k < T 4 → σ (r + 6) k = opF T k ∧ σ (r + 7) k = mdF T k ∧ σ (r + 8) k = shF T k ∧ (0 ≤ σ (r + 10) k ∧ σ (r + 10) k < 2 ^ (T 2).toNat) ∧ ∀ h : Int, 0 ≤ h → h < T 2 → σ (r + 9) (3 * k + h) = cpF T k h ∧ bt (σ (r + 10) k) h = bt (T (27 + h)) (T (43 + k)))
theorem HR.fr {σ τ : Mem} {r : Nat} {T : Int → Int} (h : HR σ r T) (e : ∀ c, r ≤ c → c ≤ r + 10 → τ c = σ c) : HR τ r T := by
  unfold HR at h ⊢
  rw [e r (by omega) (by omega), e (r + 1) (by omega) (by omega), e (r + 2) (by omega) (by omega), e (r + 3) (by omega) (by omega), e (r + 4) (by omega) (by omega), e (r + 5) (by omega) (by omega), e (r + 6) (by omega) (by omega), e (r + 7) (by omega) (by omega), e (r + 8) (by omega) (by omega), e (r + 9) (by omega) (by omega), e (r + 10) (by omega) (by omega)]
  exact h
/-- the same but for the field 18 -/
theorem HR.fr18 {σ τ : Mem} {r : Nat} {T : Int → Int} (h : HR σ r T) (e0 : ∀ k, k ≠ 18 → τ r k = σ r k) (e : ∀ c, r < c → c ≤ r + 10 → τ c = σ c) : HR τ r T := by
  unfold HR at h ⊢
  rw [e0 0 (by decide), e0 1 (by decide), e0 2 (by decide), e0 3 (by decide), e0 4 (by decide), e0 5 (by decide), e0 6 (by decide), e (r + 1) (by omega) (by omega), e (r + 2) (by omega) (by omega), e (r + 3) (by omega) (by omega), e (r + 4) (by omega) (by omega), e (r + 5) (by omega) (by omega), e (r + 6) (by omega) (by omega), e (r + 7) (by omega) (by omega), e (r + 8) (by omega) (by omega), e (r + 9) (by omega) (by omega), e (r + 10) (by omega) (by omega)]
  exact h
theorem HR.tx {σ : Mem} {r : Nat} {T T2 : Int → Int} (h : HR σ r T) (x : TX T T2) (hT : MT T) : HR σ r T2 := by
  obtain ⟨⟨a0, a1, a2, a3, a4, a5, a6⟩, b, c, f, n, m⟩ := h
  have t2 := hT.2.1
  have t3 := hT.2.2.1
  have t4 := hT.2.2.2.1
  have t6 := hT.2.2.2.2.2.1
  have e2 := x 2 (by omega) (by omega)
  have e3 := x 3 (by omega) (by omega)
  have e4 := x 4 (by omega) (by omega)
  have e6 := x 6 (by omega) (by omega)
  refine ⟨⟨by rw [x 1 (by omega) (by omega)]; exact a0, by rw [e2]; exact a1, by rw [e3]; exact a2, by rw [e4]; exact a3, by rw [x 0 (by omega) (by omega)]; exact a4, by rw [x 5 (by omega) (by omega)]; exact a5, by rw [e6]; exact a6⟩, fun y y0 y1 => ?_, fun y y0 y1 => ?_, fun k w k0 k1 w0 w1 => ?_, fun i i0 i1 => ?_, fun k k0 k1 => ?_⟩
  · rw [e2] at y1; rw [x (27 + y) (by omega) (by omega), x (30 + y) (by omega) (by omega)]; exact b y y0 y1
  · rw [e3] at y1; rw [x (33 + y) (by omega) (by omega)]; exact c y y0 y1
  · rw [e4] at k1; rw [x (37 + 6 * w + k) (by omega) (by omega)]; exact f k w k0 k1 w0 w1
  · rw [e6] at i1; rw [x (19 + i) (by omega) (by omega)]; exact n i i0 i1
  · rw [e4] at k1
    obtain ⟨m1, m2, m3, m4, m5⟩ := m k k0 k1
    have F := x.F hT (k := k) (x := 0) (by omega) (by omega)
    refine ⟨by rw [F.1]; exact m1, by rw [F.2.2.1]; exact m2, by rw [F.2.2.2]; exact m3, by rw [e2]; exact m4, fun y y0 y1 => ?_⟩
    rw [e2] at y1
    rw [(x.F hT (k := k) (x := y) (by omega) (by omega)).2.1, x (27 + y) (by omega) (by omega), x (43 + k) (by omega) (by omega)]
    exact m5 y y0 y1
theorem HR.rb {σ : Mem} {r : Nat} {T : Int → Int} (h : HR σ r T) (hT : MT T) : RB σ r := by
  obtain ⟨⟨a0, a1, a2, a3, -⟩, -⟩ := h
  have := hT.2.1
  have := hT.2.2.1
  have := hT.2.2.2.1
  exact ⟨by omega, by omega, by omega⟩
theorem pw8 {n : Int} (h : 0 ≤ n ∧ n ≤ 3) : (1 : Int) ≤ 2 ^ n.toNat ∧ (2 : Int) ^ n.toNat ≤ 8 := by
  rcases (show n = 0 ∨ n = 1 ∨ n = 2 ∨ n = 3 by omega) with rfl | rfl | rfl | rfl <;> decide
theorem HR.hp {σ : Mem} {T : Int → Int} (h : HR σ 2 T) (hT : MT T) : HP σ T := by
  obtain ⟨⟨a0, a1, a2, a3, -⟩, b, c, f, n, m⟩ := h
  refine ⟨a0, a1, a3, ⟨fun k k0 k1 => ⟨(m k k0 (by omega)).1, (m k k0 (by omega)).2.1⟩, fun k y k0 k1 y0 y1 => ((m k k0 (by omega)).2.2.2.2 y y0 (by omega)).1⟩, fun k k0 k1 => ⟨(m k k0 k1).2.2.1, ?_, fun y y0 y1 => ((m k k0 k1).2.2.2.2 y y0 y1).2⟩⟩
  have := (m k k0 k1).2.2.2.1
  have p := pw8 hT.2.1
  exact ⟨this.1, by have := this.2; show σ (2 + 10) k < 8; omega⟩
/-- rows that hands awake can do -/
def RO (T : Int → Int) (A : Int) (R : RL) : Prop := RV T R ∧ ∀ x ∈ R, bt A x.2 = 1 ∧ bt (T (27 + x.2)) (T (43 + x.1)) = 1
theorem RO.tx {T T2 : Int → Int} {A : Int} {R : RL} (x : TX T T2) (hT : MT T) (h : RO T A R) : RO T2 A R := by
  refine ⟨x.rv h.1, fun y hy => ?_⟩
  have q := in63.of hT h.1 y hy
  rw [x (27 + y.2) (by omega) (by omega), x (43 + y.1) (by omega) (by omega)]
  exact h.2 y hy
/-- the soonest end of a row of a set of letters -/
def IsSoon (T : Int → Int) (A S v : Int) : Prop := v ≤ 1000 ∧ (v = 1000 ∨ ∃ R, RO T A R ∧ tkn R = S ∧ endV (gM T) R = v) ∧ ∀ R, RO T A R → tkn R = S → v ≤ endV (gM T) R
theorem IsSoon.tx {T T2 : Int → Int} {A S v : Int} (x : TX T T2) (hT : MT T) (h : IsSoon T A S v) : IsSoon T2 A S v := by
  refine ⟨h.1, ?_, fun R hR hS => ?_⟩
  · rcases h.2.1 with e | ⟨R, a, b, c⟩
    · exact Or.inl e
    · exact Or.inr ⟨R, a.tx x hT, b, by rw [x.ev hT (in63.of hT a.1)]; exact c⟩
  · have h2 := hR.tx x.sy (x.mt hT)
    rw [x.ev hT (in63.of hT h2.1)]
    exact h.2.2 R h2 hS
def SoonOK (σ : Mem) (r : Nat) (T : Int → Int) : Prop := ∀ A S : Int, 0 ≤ A → A < 8 → bt (σ r 18) A = 1 → 0 ≤ S → S < 64 → IsSoon T A S (σ (r + 11) (64 * A + S))
theorem SoonOK.fr {σ τ : Mem} {r : Nat} {T : Int → Int} (h : SoonOK σ r T) (e : τ r 18 = σ r 18) (e2 : τ (r + 11) = σ (r + 11)) : SoonOK τ r T := by
  unfold SoonOK at h ⊢; rw [e, e2]; exact h
theorem SoonOK.tx {σ : Mem} {r : Nat} {T T2 : Int → Int} (h : SoonOK σ r T) (x : TX T T2) (hT : MT T) : SoonOK σ r T2 :=
  fun A S a b c d e => (h A S a b c d e).tx x hT
/-- worth of a row -/
def wor (T : Int → Int) : RL → Int
  | [] => 0
  | x :: R => wor T R + T (55 + x.1)
/-- rows by their numbers, from the first on: the first one that differs decides -/
def cod (x : Int × Int) : Int := 10 * x.2 + x.1
def lexR (R R2 : RL) : Prop := ∃ n : Nat, n < R.length ∧ n < R2.length ∧ suf R n = suf R2 n ∧ 10 * hAt R n + kAt R n < 10 * hAt R2 n + kAt R2 n
def CanB (T : Int → Int) (rd A noon : Int) (R : RL) : Prop := RO T A R ∧ (∀ x ∈ R, bt rd x.1 = 0) ∧ endV (gM T) R ≤ noon
def IsBest (T : Int → Int) (rd A noon : Int) (R : RL) : Prop := CanB T rd A noon R ∧ ∀ R2, CanB T rd A noon R2 → wor T R2 < wor T R ∨ wor T R2 = wor T R ∧ (R.length < R2.length ∨ R.length = R2.length ∧ (R2 = R ∨ lexR R R2))
theorem TX.wo {T T2 : Int → Int} (x : TX T T2) : ∀ {R : RL}, in63 R → wor T2 R = wor T R
  | [], _ => rfl
  | y :: R, q => by
    have := (q y List.mem_cons_self).1
    show wor T2 R + T2 (55 + y.1) = wor T R + T (55 + y.1)
    rw [TX.wo x q.tl, x (55 + y.1) (by omega) (by omega)]
theorem CanB.tx {T T2 : Int → Int} {rd A noon : Int} {R : RL} (x : TX T T2) (hT : MT T) (h : CanB T rd A noon R) : CanB T2 rd A noon R :=
  ⟨h.1.tx x hT, h.2.1, by rw [x.ev hT (in63.of hT h.1.1)]; exact h.2.2⟩
theorem IsBest.tx {T T2 : Int → Int} {rd A noon : Int} {R : RL} (x : TX T T2) (hT : MT T) (h : IsBest T rd A noon R) : IsBest T2 rd A noon R := by
  refine ⟨h.1.tx x hT, fun R2 hR2 => ?_⟩
  have h2 := hR2.tx x.sy (x.mt hT)
  rw [x.wo (in63.of hT h2.1.1), x.wo (in63.of hT h.1.1.1)]
  exact h.2 R2 h2
def PlanOK (σ : Mem) (T : Int → Int) : Prop := σ 92 10 ≠ 0 → ∃ R, IsBest T (σ 92 11) (σ 92 12) (T 1) R ∧ σ 92 13 = wor T R ∧ σ 92 14 = R.length ∧ σ 92 15 = tkn R ∧ σ 92 16 = endV (gM T) R ∧ ∀ i : Int, 0 ≤ i → i < R.length → σ 95 i = 10 * hAt R i + kAt R i
theorem PlanOK.fr {σ τ : Mem} {T : Int → Int} (h : PlanOK σ T) (e : τ 92 = σ 92) (e2 : τ 95 = σ 95) : PlanOK τ T := by
  unfold PlanOK at h ⊢; rw [e, e2]; exact h
theorem PlanOK.tx {σ : Mem} {T T2 : Int → Int} (h : PlanOK σ T) (x : TX T T2) (hT : MT T) : PlanOK σ T2 := by
  intro hp
  obtain ⟨R, a, b, c, d, e, f⟩ := h hp
  have q := in63.of hT a.1.1.1
  refine ⟨R, ?_, by rw [x.wo q]; exact b, c, d, by rw [x.ev hT q]; exact e, f⟩
  rw [x 1 (by omega) (by omega)]; exact a.tx x hT
/-- how things stand: in s, and in the reference's five numbers f -/
def ST (σ : Mem) (s : Nat) (H : Int) (f : Int → Int) : Prop := σ s 0 = f 0 ∧ σ s 1 = f 1 ∧ σ s 2 = ian (2 ^ H.toNat - 1) (ixo (f 2) (-1)) ∧ σ s 3 = f 3 ∧ σ s 4 = f 4 ∧ (0 ≤ f 0 ∧ f 0 < 64) ∧ (0 ≤ f 1 ∧ f 1 < 64) ∧ (0 ≤ f 2 ∧ f 2 < 8)
theorem ST.fr {σ τ : Mem} {s s2 : Nat} {H : Int} {f f2 : Int → Int} (h : ST σ s H f) (e : ∀ k, 0 ≤ k → k < 5 → τ s2 k = σ s k) (e2 : ∀ k, 0 ≤ k → k < 5 → f2 k = f k) : ST τ s2 H f2 := by
  unfold ST at h ⊢
  rw [e 0 (by decide) (by decide), e 1 (by decide) (by decide), e 2 (by decide) (by decide), e 3 (by decide) (by decide), e 4 (by decide) (by decide), e2 0 (by decide) (by decide), e2 1 (by decide) (by decide), e2 2 (by decide) (by decide), e2 3 (by decide) (by decide), e2 4 (by decide) (by decide)]
  exact h
def PastOK (σ : Mem) : Prop := (0 ≤ σ 52 1 ∧ σ 52 1 < 10) ∧ (0 ≤ σ 52 2 ∧ σ 52 2 ≤ 10) ∧ σ 116 84 = σ 52 2 ∧ ∀ i : Int, 0 ≤ i → i < σ 52 2 → ST σ (54 + ((σ 52 1 + i) % 10).toNat) (σ 116 2) (fun k => σ 116 (85 + 5 * i + k))
def TrayOK (σ : Mem) : Prop := ∀ t : Nat, t < 4 → (σ 130 t = -1 ∧ σ (102 + 2 * t) 1 = -1) ∨ (σ 130 t = σ (102 + 2 * t) 0 ∧ (0 ≤ σ (102 + 2 * t) 0 ∧ σ (102 + 2 * t) 0 ≤ 3) ∧ σ 131 t = σ (102 + 2 * t) 1 ∧ (0 ≤ σ (102 + 2 * t) 1 ∧ σ (102 + 2 * t) 1 ≤ 40) ∧ ∀ i : Int, 0 ≤ i → i < σ (102 + 2 * t) 1 → σ (103 + 2 * t) i = σ 132 (40 * t + i))
theorem TrayOK.fr {σ τ : Mem} (h : TrayOK σ) (e : ∀ c, 102 ≤ c → c ≤ 109 → τ c = σ c) (e0 : τ 130 = σ 130) (e1 : τ 131 = σ 131) (e2 : τ 132 = σ 132) : TrayOK τ := by
  intro t ht
  rw [e (102 + 2 * t) (by omega) (by omega), e (103 + 2 * t) (by omega) (by omega), e0, e1, e2]
  exact h t ht
/-- the reference's table of image i -/
def im (σ : Mem) (i : Nat) : Int → Int := fun k => σ 116 (1036 * (i + 1) + k)
def ImgOK (σ : Mem) : Prop := ∀ i : Nat, i < 2 → σ 112 i = σ 117 i ∧ (σ 117 i ≠ 0 → MT (im σ i) ∧ HR σ (26 + 12 * i) (im σ i) ∧ SoonOK σ (26 + 12 * i) (im σ i) ∧ ST σ (113 + i) (im σ i 2) (fun k => im σ i (79 + k)))
theorem ImgOK.fr {σ τ : Mem} (h : ImgOK σ) (e : ∀ c, 26 ≤ c → c ≤ 49 → τ c = σ c) (e1 : τ 112 = σ 112) (e2 : τ 117 = σ 117) (e3 : τ 113 = σ 113) (e4 : τ 114 = σ 114) (e5 : ∀ k : Int, 1036 ≤ k → τ 116 k = σ 116 k) : ImgOK τ := by
  intro i hi
  have eT : ∀ k, 0 ≤ k → im τ i k = im σ i k := fun k hk => e5 _ (by omega)
  have X : TX (im σ i) (im τ i) := fun k h0 _ => eT k h0
  obtain ⟨a, b⟩ := h i hi
  refine ⟨by rw [e1, e2]; exact a, fun hn => ?_⟩
  rw [e2] at hn
  obtain ⟨m, hr, so, st⟩ := b hn
  refine ⟨X.mt m, (hr.fr (fun c c0 c1 => e c (by omega) (by omega))).tx X m, (so.fr (by rw [e _ (by omega) (by omega)]) (e _ (by omega) (by omega))).tx X m, ?_⟩
  rw [eT 2 (by omega)]
  refine st.fr (fun k k0 k1 => ?_) (fun k k0 k1 => eT _ (by omega))
  rcases (show i = 0 ∨ i = 1 by omega) with rfl | rfl
  · show τ 113 k = σ 113 k; rw [e3]
  · show τ 114 k = σ 114 k; rw [e4]
def TapeOK (σ : Mem) : Prop := σ 0 1 = σ 115 5 ∧ (0 ≤ σ 0 1 ∧ σ 0 1 ≤ 900) ∧ (∀ i : Int, 0 ≤ i → i < σ 0 1 → σ 1 i = w8 (σ 118 i) ∧ (0 ≤ σ 118 i ∧ σ 118 i < 256)) ∧ σ 0 2 = σ 115 13 ∧ σ 0 3 = σ 115 14
def II (σ : Mem) : Prop := MT (σ 116) ∧ HR σ 2 (σ 116) ∧ SoonOK σ 2 (σ 116) ∧ ST σ 50 (σ 116 2) (fun k => σ 116 (79 + k)) ∧ PastOK σ ∧ TrayOK σ ∧ ImgOK σ ∧ TapeOK σ ∧ PlanOK σ (σ 116) ∧ σ 115 33 = 0
/-- cells that tell how things are; of the reference's own only four numbers -/
def scrt : List Nat := [14, 15, 16, 17, 18, 19, 20, 21, 22, 23, 24, 25, 51, 53, 64, 65, 66, 67, 68, 69, 70, 71, 72, 73, 74, 75, 76, 77, 78, 79, 80, 81, 82, 83, 84, 85, 86, 87, 88, 89, 90, 91, 93, 94, 96, 97, 98, 99, 100, 101, 110, 111, 115, 119, 120, 121, 122, 123, 124, 125, 126, 127, 128, 129]
theorem PastOK.fr {σ τ : Mem} (h : PastOK σ) (e : ∀ c, 52 ≤ c → c ≤ 63 → c ≠ 53 → τ c = σ c) (e2 : τ 116 2 = σ 116 2) (e3 : ∀ k, 84 ≤ k → k < 135 → τ 116 k = σ 116 k) : PastOK τ := by
  unfold PastOK at h ⊢
  rw [e 52 (by decide) (by decide) (by decide), e2, e3 84 (by decide) (by decide)]
  refine ⟨h.1, h.2.1, h.2.2.1, fun i i0 i1 => ?_⟩
  refine (h.2.2.2 i i0 i1).fr (fun k k0 k1 => ?_) (fun k k0 k1 => ?_)
  · rw [e _ (by omega) (by omega) (by omega)]
  · exact e3 _ (by omega) (by omega)
theorem II.same {σ τ : Mem} (h : II σ) (hF : Fr scrt σ τ) (hK : ∀ k, k ∈ [5, 13, 14, 33] → τ 115 k = σ 115 k) : II τ := by
  have e : ∀ c, c ∉ scrt → τ c = σ c := hF
  have k5 := hK 5 (by decide)
  have k13 := hK 13 (by decide)
  have k14 := hK 14 (by decide)
  have k33 := hK 33 (by decide)
  have e116 := e 116 (by decide)
  obtain ⟨a, b, c, d, f, g, i, j, l, m⟩ := h
  have e26 : ∀ c, 26 ≤ c → c ≤ 49 → τ c = σ c := fun c c0 c1 => e c (by simp [scrt]; omega)
  have e52 : ∀ c, 52 ≤ c → c ≤ 63 → c ≠ 53 → τ c = σ c := fun c c0 c1 c2 => e c (by simp [scrt]; omega)
  have e2 : ∀ c, 2 ≤ c → c ≤ 13 → τ c = σ c := fun c c0 c1 => e c (by simp [scrt]; omega)
  have et : ∀ c, 102 ≤ c → c ≤ 109 → τ c = σ c := fun c c0 c1 => e c (by simp [scrt]; omega)
  refine ⟨by rw [e116]; exact a, by rw [e116]; exact b.fr (fun c c0 c1 => e2 c (by omega) (by omega)), by rw [e116]; exact c.fr (by rw [e2 2 (by omega) (by omega)]) (e2 _ (by omega) (by omega)), ?_, f.fr e52 (by rw [e116]) (fun k _ _ => by rw [e116]), g.fr et (e _ (by decide)) (e _ (by decide)) (e _ (by decide)), i.fr e26 (e _ (by decide)) (e _ (by decide)) (e _ (by decide)) (e _ (by decide)) (fun k _ => by rw [e116]), ?_, by rw [e116]; exact l.fr (e _ (by decide)) (e _ (by decide)), by rw [k33]; exact m⟩
  · rw [e116]; exact d.fr (fun k _ _ => by rw [e 50 (by decide)]) (fun _ _ _ => rfl)
  · unfold TapeOK at j ⊢
    rw [e 0 (by decide), e 1 (by decide), e 118 (by decide), k5, k13, k14]; exact j
theorem II.thr {σ : Mem} (h : II σ) : II (up σ 115 0 0) := h.same (Fr.rf.up (by decide)) (fun k hk => up_nk (by intro e; subst e; simp at hk))
theorem II.rk {σ τ : Mem} (h : II σ) (hF : Fr [120] σ τ) : II τ := h.same (hF.wk (by decide)) (fun k hk => by rw [hF 115 (by decide)])
