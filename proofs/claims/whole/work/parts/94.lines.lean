/-! lines: what is read, as a function of the tokens -/
def numP (kd vl : Int → Int) (lo hi j : Int) (T : TB) (k : Int → Int → Rs) : Rs := if kd j = 1 then (if lo ≤ vl j ∧ vl j ≤ hi then k (vl j) (j + 1) else fP kd 3 j T) else fP kd 2 j T
def pHl (kd vl : Int → Int) (T : TB) (k : Int → Int → Rs) : Nat → Int → Int → Rs
  | 0, j, _ => (0, j, T)
  | F + 1, j, s => numP kd vl 0 3 j T (fun v i => if kd i = 1 then pHl kd vl T k F i (ior s (ish 1 v)) else k (ior s (ish 1 v)) i)
def hdP (T : TB) (s v : Int) : TB := upT (upT (upT T (27 + T 2) s) (30 + T 2) v) 2 (T 2 + 1)
def pSk (kd vl : Int → Int) (T : TB) (s i : Int) : Rs := if kd i = 203 then numP kd vl 0 9 (i + 1) T (fun v i2 => (0, i2, hdP T s v)) else (0, i, hdP T s 0)
def pHand (kd vl : Int → Int) (j : Int) (T : TB) : Rs := if T 2 = 3 then fP kd 4 j T else pHl kd vl T (pSk kd vl T) 1000 (j + 1) 0
def ctP (T : TB) (v : Int) : TB := upT (upT T (33 + T 3) v) 3 (T 3 + 1)
def pCourt (kd vl : Int → Int) (j : Int) (T : TB) : Rs := if T 3 = 4 then fP kd 4 j T else numP kd vl 0 100 (j + 1) T (fun v i => (0, i, ctP T v))
def ltP (T : TB) (v w : Int) : TB := upT (upT (upT (upT T (37 + T 4) v) (43 + T 4) w) (49 + T 4) 1) (55 + T 4) 1
def pFl (kd vl : Int → Int) : Nat → Int → TB → Rs
  | 0, j, T => (0, j, T)
  | F + 1, j, T => if 207 ≤ kd j ∧ kd j ≤ 210 then numP kd vl (if kd j = 207 then 1 else 0) (if kd j ≤ 208 then 99 else 9) (j + 1) T (fun v i => pFl kd vl F i (upT T (37 + 6 * (kd j - 205) + T 4) v)) else if kd j = 211 then (if kd (j + 1) = 212 then pFl kd vl F (j + 2) (upT T (73 + T 4) 1) else if kd (j + 1) = 213 then pFl kd vl F (j + 2) (upT T (73 + T 4) 2) else fP kd 2 (j + 1) T) else (0, j, upT T 4 (T 4 + 1))
def pLetter (kd vl : Int → Int) (j : Int) (T : TB) : Rs := if T 4 = 6 then fP kd 4 j T else numP kd vl 0 (T 3 - 1) (j + 1) T (fun v i => if kd i = 206 then numP kd vl 0 3 (i + 1) T (fun w i2 => pFl kd vl 1000 i2 (ltP T v w)) else fP kd 2 i T)
def lwP (U : TB) (l f : Int) : TB := upT (upT (upT U (7 + l) 1) (11 + l) f) (15 + l) (U 135 - f)
def pLaw (kd vl : Int → Int) (l j : Int) (T : TB) : Rs := if kd (j + 1) = 58 then seqR (pSu kd (pAt kd vl l 6) (j + 2) T) (fun i U => (0, i, lwP U l (T 135))) else fP kd 2 (j + 1) T
def nmP (t : Int → Int) (s : Int) (T : TB) : Nat → TB
  | 0 => T
  | m + 1 => upT (nmP t s T m) (19 + m) (t (s + m) - 97)
def pName (kd vl st t : Int → Int) (j : Int) (T : TB) : Rs := if 200 ≤ kd (j + 1) ∧ vl (j + 1) ≤ 8 then (0, j + 2, upT (nmP t (st (j + 1)) T (vl (j + 1)).toNat) 6 (vl (j + 1))) else fP kd 2 (j + 1) T
def pPrior (kd vl : Int → Int) (j : Int) (T : TB) : Rs := numP kd vl 0 100 (j + 1) T (fun v i => (0, i, upT T 5 v))
def pLine (kd vl st t : Int → Int) (j : Int) (T : TB) : Rs := if kd j = 202 then pHand kd vl j T else if kd j = 204 then pCourt kd vl j T else if kd j = 205 then pLetter kd vl j T else if 214 ≤ kd j ∧ kd j ≤ 217 then pLaw kd vl (kd j - 214) j T else if kd j = 218 then pPrior kd vl j T else if kd j = 219 then pName kd vl st t j T else fP kd 2 j T
def pEnd (kd : Int → Int) (j : Int) (T : TB) : Rs := if kd j = 59 then (0, j + 1, upT T 0 (T 0 + 1)) else fP kd 2 j T
def pLs (kd vl st t : Int → Int) : Nat → Int → TB → Rs
  | 0, j, T => (0, j, T)
  | F + 1, j, T => if kd j = 0 then (0, j, T) else seqR (seqR (pLine kd vl st t j T) (pEnd kd)) (pLs kd vl st t F)
def pRoom (kd vl st t : Int → Int) (T : TB) : Rs := if kd 0 = 201 then seqR (numP kd vl 1 300 1 T (fun v i => (0, i, upT T 1 v))) (fun i U => seqR (pEnd kd i U) (pLs kd vl st t 1000)) else fP kd 2 0 T
/-! what holds of the table -/
theorem lawOK.cg {T U : TB} {l : Int} (h : lawOK T l) (e1 : U (11 + l) = T (11 + l)) (e2 : U (15 + l) = T (15 + l)) (e3 : ∀ i : Int, 136 + T (11 + l) ≤ i → i < 136 + T (11 + l) + T (15 + l) → U i = T i) : lawOK U l := by
  obtain ⟨a, b, c, d⟩ := h
  unfold lawOK
  rw [e1, e2]
  refine ⟨a, b, c, ?_⟩
  rw [cds_cg (T := T) (U := U) (f := T (11 + l)) (T (15 + l)).toNat 0 (fun x x0 x1 => e3 _ (by omega) (by omega))]
  exact d
def EX (j : Int) (T : TB) : Prop := (∀ l : Int, 0 ≤ l → l < 4 → T (7 + l) = 1 → T (11 + l) + T (15 + l) ≤ T 135 ∧ 1 ≤ T (15 + l)) ∧ (0 ≤ T 0 ∧ T 0 ≤ j) ∧ (0 ≤ T 135 ∧ T 135 ≤ j) ∧ (∀ i : Int, 79 ≤ i → i < 135 → T i = 0) ∧ ∀ k : Int, T 4 ≤ k → k < 6 → T (61 + k) = 0 ∧ T (67 + k) = 0 ∧ T (73 + k) = 0
def QT (j : Int) (T : TB) : Prop := MT T ∧ EX j T
theorem EX.cg {i j : Int} {T U : TB} (h : EX j T) (hi : j ≤ i) (e0 : U 0 = T 0) (e : ∀ x : Int, 7 ≤ x → x < 19 → U x = T x) (e2 : ∀ x : Int, 79 ≤ x → U x = T x) (e4 : ∀ k : Int, U 4 ≤ k → k < 6 → T 4 ≤ k ∧ U (61 + k) = T (61 + k) ∧ U (67 + k) = T (67 + k) ∧ U (73 + k) = T (73 + k)) : EX i U := by
  obtain ⟨a, b, c, d, z⟩ := h
  refine ⟨fun l l0 l1 hl => ?_, by omega, by rw [e2 135 (by omega)]; omega, fun x x0 x1 => by rw [e2 x x0]; exact d x x0 x1, fun k k0 k1 => by obtain ⟨p1, p2, p3, p4⟩ := e4 k k0 k1; rw [p2, p3, p4]; exact z k p1 k1⟩
  rw [e (7 + l) (by omega) (by omega)] at hl
  rw [e (11 + l) (by omega) (by omega), e (15 + l) (by omega) (by omega), e2 135 (by omega)]; exact a l l0 l1 hl
theorem LW.cg {T U : TB} (h : ∀ l : Int, 0 ≤ l → l < 4 → (T (7 + l) = 0 ∨ T (7 + l) = 1) ∧ (T (7 + l) = 1 → lawOK T l)) (e : ∀ x : Int, 7 ≤ x → x < 19 → U x = T x) (e2 : ∀ x : Int, 136 ≤ x → U x = T x) : ∀ l : Int, 0 ≤ l → l < 4 → (U (7 + l) = 0 ∨ U (7 + l) = 1) ∧ (U (7 + l) = 1 → lawOK U l) := by
  intro l l0 l1
  have q := h l l0 l1
  rw [e (7 + l) (by omega) (by omega)]
  refine ⟨q.1, fun z => (q.2 z).cg (e _ (by omega) (by omega)) (e _ (by omega) (by omega)) (fun i i0 _ => e2 i ?_)⟩
  have := (q.2 z).1
  omega
/-- of one letter -/
def LF (T : TB) (k : Int) : Prop := (0 ≤ T (37 + k) ∧ T (37 + k) < T 3) ∧ (0 ≤ T (43 + k) ∧ T (43 + k) ≤ 3) ∧ (1 ≤ T (49 + k) ∧ T (49 + k) ≤ 99) ∧ (0 ≤ T (55 + k) ∧ T (55 + k) ≤ 99) ∧ (0 ≤ T (61 + k) ∧ T (61 + k) ≤ 9) ∧ (0 ≤ T (67 + k) ∧ T (67 + k) ≤ 9) ∧ (0 ≤ T (73 + k) ∧ T (73 + k) ≤ 2)
theorem QT.set {i j : Int} {T U : TB} (h : QT j T) (hi : j ≤ i) {x v : Int} (hU : U = upT T x v) (hx : x = 0 ∨ x = 1 ∨ x = 5) (hv : x = 0 → v = T 0 + 1 ∧ j < i) (hv1 : x = 1 → 0 ≤ v ∧ v ≤ 300) (hv5 : x = 5 → 0 ≤ v ∧ v ≤ 100) : QT i U := by
  obtain ⟨⟨a1, a2, a3, a4, a5, a6, a7, a8, a9, a10, a11⟩, ⟨b1, b2, b3, b4, b5⟩⟩ := h
  have e : ∀ y : Int, y ≠ x → U y = T y := fun y hy => by rw [hU]; exact upT_n hy
  have ex : U x = v := by rw [hU]; exact upT_s
  refine ⟨⟨?_, by rw [e 2 (by omega)]; exact a2, by rw [e 3 (by omega)]; exact a3, by rw [e 4 (by omega)]; exact a4, ?_, by rw [e 6 (by omega)]; exact a6, fun y y0 y1 => ?_, fun y y0 y1 => ?_, fun y y0 y1 => ?_, fun y y0 y1 => ?_, LW.cg a11 (fun y y0 y1 => e y (by omega)) (fun y y0 => e y (by omega))⟩, ⟨fun l l0 l1 hl => ?_, ?_, by rw [e 135 (by omega)]; omega, fun y y0 y1 => by rw [e y (by omega)]; exact b4 y y0 y1, fun y y0 y1 => by rw [e 4 (by omega)] at y0; rw [e _ (by omega), e _ (by omega), e _ (by omega)]; exact b5 y y0 y1⟩⟩
  · by_cases z : x = 1
    · rw [← z, ex]; exact hv1 z
    · rw [e 1 (by omega)]; exact a1
  · by_cases z : x = 5
    · rw [← z, ex]; exact hv5 z
    · rw [e 5 (by omega)]; exact a5
  · rw [e 6 (by omega)] at y1; rw [e _ (by omega)]; exact a7 y y0 y1
  · rw [e _ (by omega), e _ (by omega)]; exact a8 y y0 y1
  · rw [e 3 (by omega)] at y1; rw [e _ (by omega)]; exact a9 y y0 y1
  · rw [e 4 (by omega)] at y1; rw [e 3 (by omega), e _ (by omega), e _ (by omega), e _ (by omega), e _ (by omega), e _ (by omega), e _ (by omega), e _ (by omega)]; exact a10 y y0 y1
  · rw [e _ (by omega)] at hl; rw [e _ (by omega), e _ (by omega), e _ (by omega)]; exact b1 l l0 l1 hl
  · by_cases z : x = 0
    · have := hv z
      rw [z] at ex
      rw [ex]; omega
    · rw [e 0 (by omega)]; omega
theorem QT.hd {i j s v : Int} {T : TB} (h : QT j T) (hi : j ≤ i) (h2 : T 2 < 3) (hs : 0 ≤ s ∧ s ≤ 15) (hv : 0 ≤ v ∧ v ≤ 9) : QT i (hdP T s v) := by
  obtain ⟨⟨a1, a2, a3, a4, a5, a6, a7, a8, a9, a10, a11⟩, hE⟩ := h
  have e : ∀ y : Int, y ≠ 2 → y ≠ 27 + T 2 → y ≠ 30 + T 2 → hdP T s v y = T y := fun y p q r => by unfold hdP; rw [upT_n p, upT_n r, upT_n q]
  have e2 : hdP T s v 2 = T 2 + 1 := upT_s
  have e27 : hdP T s v (27 + T 2) = s := by unfold hdP; rw [upT_n (by omega), upT_n (by omega), upT_s]
  have e30 : hdP T s v (30 + T 2) = v := by unfold hdP; rw [upT_n (by omega), upT_s]
  refine ⟨⟨by rw [e 1 (by omega) (by omega) (by omega)]; exact a1, by omega, by rw [e 3 (by omega) (by omega) (by omega)]; exact a3, by rw [e 4 (by omega) (by omega) (by omega)]; exact a4, by rw [e 5 (by omega) (by omega) (by omega)]; exact a5, by rw [e 6 (by omega) (by omega) (by omega)]; exact a6, fun y y0 y1 => ?_, fun y y0 y1 => ?_, fun y y0 y1 => ?_, fun y y0 y1 => ?_, LW.cg a11 (fun y y0 y1 => e y (by omega) (by omega) (by omega)) (fun y y0 => e y (by omega) (by omega) (by omega))⟩, hE.cg hi (e 0 (by omega) (by omega) (by omega)) (fun y y0 y1 => e y (by omega) (by omega) (by omega)) (fun y y0 => e y (by omega) (by omega) (by omega)) (fun k k0 k1 => by rw [e 4 (by omega) (by omega) (by omega)] at k0; exact ⟨k0, e _ (by omega) (by omega) (by omega), e _ (by omega) (by omega) (by omega), e _ (by omega) (by omega) (by omega)⟩)⟩
  · rw [e 6 (by omega) (by omega) (by omega)] at y1; rw [e _ (by omega) (by omega) (by omega)]; exact a7 y y0 y1
  · by_cases z : y = T 2
    · rw [z, e27, e30]; exact ⟨hs, hv⟩
    · rw [e _ (by omega) (by omega) (by omega), e _ (by omega) (by omega) (by omega)]; exact a8 y y0 y1
  · rw [e 3 (by omega) (by omega) (by omega)] at y1; rw [e _ (by omega) (by omega) (by omega)]; exact a9 y y0 y1
  · rw [e 4 (by omega) (by omega) (by omega)] at y1; rw [e 3 (by omega) (by omega) (by omega), e _ (by omega) (by omega) (by omega), e _ (by omega) (by omega) (by omega), e _ (by omega) (by omega) (by omega), e _ (by omega) (by omega) (by omega), e _ (by omega) (by omega) (by omega), e _ (by omega) (by omega) (by omega), e _ (by omega) (by omega) (by omega)]; exact a10 y y0 y1
theorem QT.ct {i j v : Int} {T : TB} (h : QT j T) (hi : j ≤ i) (h3 : T 3 < 4) (hv : 0 ≤ v ∧ v ≤ 100) : QT i (ctP T v) := by
  obtain ⟨⟨a1, a2, a3, a4, a5, a6, a7, a8, a9, a10, a11⟩, hE⟩ := h
  have e : ∀ y : Int, y ≠ 3 → y ≠ 33 + T 3 → ctP T v y = T y := fun y p q => by unfold ctP; rw [upT_n p, upT_n q]
  have e3 : ctP T v 3 = T 3 + 1 := upT_s
  have e33 : ctP T v (33 + T 3) = v := by unfold ctP; rw [upT_n (by omega), upT_s]
  refine ⟨⟨by rw [e 1 (by omega) (by omega)]; exact a1, by rw [e 2 (by omega) (by omega)]; exact a2, by omega, by rw [e 4 (by omega) (by omega)]; exact a4, by rw [e 5 (by omega) (by omega)]; exact a5, by rw [e 6 (by omega) (by omega)]; exact a6, fun y y0 y1 => ?_, fun y y0 y1 => ?_, fun y y0 y1 => ?_, fun y y0 y1 => ?_, LW.cg a11 (fun y y0 y1 => e y (by omega) (by omega)) (fun y y0 => e y (by omega) (by omega))⟩, hE.cg hi (e 0 (by omega) (by omega)) (fun y y0 y1 => e y (by omega) (by omega)) (fun y y0 => e y (by omega) (by omega)) (fun k k0 k1 => by rw [e 4 (by omega) (by omega)] at k0; exact ⟨k0, e _ (by omega) (by omega), e _ (by omega) (by omega), e _ (by omega) (by omega)⟩)⟩
  · rw [e 6 (by omega) (by omega)] at y1; rw [e _ (by omega) (by omega)]; exact a7 y y0 y1
  · rw [e _ (by omega) (by omega), e _ (by omega) (by omega)]; exact a8 y y0 y1
  · by_cases z : y = T 3
    · rw [z, e33]; exact hv
    · rw [e _ (by omega) (by omega)]; exact a9 y y0 (by omega)
  · rw [e 4 (by omega) (by omega)] at y1
    have q := a10 y y0 y1
    rw [e3, e _ (by omega) (by omega), e _ (by omega) (by omega), e _ (by omega) (by omega), e _ (by omega) (by omega), e _ (by omega) (by omega), e _ (by omega) (by omega), e _ (by omega) (by omega)]
    exact ⟨⟨q.1.1, by omega⟩, q.2⟩
/-- a letter more -/
theorem QT.lt {i j : Int} {T U : TB} (h : QT j T) (hi : j ≤ i) (h4 : T 4 < 6) (e4 : U 4 = T 4 + 1) (hL : LF U (T 4)) (e : ∀ y : Int, y ≠ 4 → (y < 37 ∨ 79 ≤ y ∨ (y - 37 - T 4) % 6 ≠ 0) → U y = T y) : QT i U := by
  obtain ⟨⟨a1, a2, a3, a4, a5, a6, a7, a8, a9, a10, a11⟩, hE⟩ := h
  refine ⟨⟨by rw [e 1 (by omega) (by omega)]; exact a1, by rw [e 2 (by omega) (by omega)]; exact a2, by rw [e 3 (by omega) (by omega)]; exact a3, by omega, by rw [e 5 (by omega) (by omega)]; exact a5, by rw [e 6 (by omega) (by omega)]; exact a6, fun y y0 y1 => ?_, fun y y0 y1 => ?_, fun y y0 y1 => ?_, fun y y0 y1 => ?_, LW.cg a11 (fun y y0 y1 => e y (by omega) (by omega)) (fun y y0 => e y (by omega) (by omega))⟩, hE.cg hi (e 0 (by omega) (by omega)) (fun y y0 y1 => e y (by omega) (by omega)) (fun y y0 => e y (by omega) (by omega)) (fun k k0 k1 => ⟨by omega, e _ (by omega) (by omega), e _ (by omega) (by omega), e _ (by omega) (by omega)⟩)⟩
  · rw [e 6 (by omega) (by omega)] at y1; rw [e _ (by omega) (by omega)]; exact a7 y y0 y1
  · rw [e _ (by omega) (by omega), e _ (by omega) (by omega)]; exact a8 y y0 y1
  · rw [e 3 (by omega) (by omega)] at y1; rw [e _ (by omega) (by omega)]; exact a9 y y0 y1
  · by_cases z : y = T 4
    · rw [z]; exact hL
    · rw [e 3 (by omega) (by omega), e _ (by omega) (by omega), e _ (by omega) (by omega), e _ (by omega) (by omega), e _ (by omega) (by omega), e _ (by omega) (by omega), e _ (by omega) (by omega), e _ (by omega) (by omega)]; exact a10 y y0 (by omega)
theorem nmP_n {t : Int → Int} {s : Int} {T : TB} : ∀ (m : Nat) (y : Int), (y < 19 ∨ 19 + (m : Int) ≤ y) → nmP t s T m y = T y
  | 0, _, _ => rfl
  | m + 1, y, h => by show upT (nmP t s T m) (19 + m) _ y = T y; rw [upT_n (by omega)]; exact nmP_n m y (by omega)
theorem nmP_s {t : Int → Int} {s : Int} {T : TB} : ∀ (m : Nat) (i : Int), 0 ≤ i → i < m → nmP t s T m (19 + i) = t (s + i) - 97
  | 0, i, h0, h1 => absurd h1 (by omega)
  | m + 1, i, h0, h1 => by
    show upT (nmP t s T m) (19 + m) _ (19 + i) = _
    by_cases z : i = m
    · rw [z, upT_s]
    · rw [upT_n (by omega)]; exact nmP_s m i h0 (by omega)
theorem QT.nm {i j s v : Int} {t : Int → Int} {T : TB} (h : QT j T) (hi : j ≤ i) (hv : 0 ≤ v ∧ v ≤ 8) (ht : ∀ x : Int, 0 ≤ x → x < v → sml (t (s + x))) : QT i (upT (nmP t s T v.toNat) 6 v) := by
  obtain ⟨⟨a1, a2, a3, a4, a5, a6, a7, a8, a9, a10, a11⟩, hE⟩ := h
  have e : ∀ y : Int, y ≠ 6 → (y < 19 ∨ 27 ≤ y) → upT (nmP t s T v.toNat) 6 v y = T y := fun y p q => by rw [upT_n p]; exact nmP_n _ _ (by omega)
  have e6 : upT (nmP t s T v.toNat) 6 v 6 = v := upT_s
  refine ⟨⟨by rw [e 1 (by omega) (by omega)]; exact a1, by rw [e 2 (by omega) (by omega)]; exact a2, by rw [e 3 (by omega) (by omega)]; exact a3, by rw [e 4 (by omega) (by omega)]; exact a4, by rw [e 5 (by omega) (by omega)]; exact a5, by rw [e6]; exact hv, fun y y0 y1 => ?_, fun y y0 y1 => ?_, fun y y0 y1 => ?_, fun y y0 y1 => ?_, LW.cg a11 (fun y y0 y1 => e y (by omega) (by omega)) (fun y y0 => e y (by omega) (by omega))⟩, hE.cg hi (e 0 (by omega) (by omega)) (fun y y0 y1 => e y (by omega) (by omega)) (fun y y0 => e y (by omega) (by omega)) (fun k k0 k1 => by rw [e 4 (by omega) (by omega)] at k0; exact ⟨k0, e _ (by omega) (by omega), e _ (by omega) (by omega), e _ (by omega) (by omega)⟩)⟩
  · rw [e6] at y1
    rw [upT_n (by omega), nmP_s _ y y0 (by omega)]
    have := ht y y0 y1
    unfold sml at this; omega
  · rw [e _ (by omega) (by omega), e _ (by omega) (by omega)]; exact a8 y y0 y1
  · rw [e 3 (by omega) (by omega)] at y1; rw [e _ (by omega) (by omega)]; exact a9 y y0 y1
  · rw [e 4 (by omega) (by omega)] at y1; rw [e 3 (by omega) (by omega), e _ (by omega) (by omega), e _ (by omega) (by omega), e _ (by omega) (by omega), e _ (by omega) (by omega), e _ (by omega) (by omega), e _ (by omega) (by omega), e _ (by omega) (by omega)]; exact a10 y y0 y1
/-- a law more -/
theorem QT.lw {i j l : Int} {T U : TB} (h : QT j T) (hl : 0 ≤ l ∧ l < 4) (hX : XT 15 j T i U) (hi : i ≤ 900) : QT i (lwP U l (T 135)) := by
  obtain ⟨⟨a1, a2, a3, a4, a5, a6, a7, a8, a9, a10, a11⟩, ⟨b1, b2, b3, b4, b5⟩⟩ := h
  obtain ⟨⟨x1, x2⟩, x3, x4⟩ := hX
  have e : ∀ y : Int, y ≠ 7 + l → y ≠ 11 + l → y ≠ 15 + l → lwP U l (T 135) y = U y := fun y p q r => by unfold lwP; rw [upT_n r, upT_n q, upT_n p]
  have f7 : lwP U l (T 135) (7 + l) = 1 := by unfold lwP; rw [upT_n (by omega), upT_n (by omega), upT_s]
  have f11 : lwP U l (T 135) (11 + l) = T 135 := by unfold lwP; rw [upT_n (by omega), upT_s]
  have f15 : lwP U l (T 135) (15 + l) = U 135 - T 135 := upT_s
  have g : ∀ y : Int, (y < 7 ∨ 19 ≤ y) → y < 135 → lwP U l (T 135) y = T y := fun y p q => by rw [e y (by omega) (by omega) (by omega)]; exact x3 y (by omega) (by omega)
  have g135 : lwP U l (T 135) 135 = U 135 := e 135 (by omega) (by omega) (by omega)
  have new : lawOK (lwP U l (T 135)) l := by
    unfold lawOK
    rw [f11, f15]
    refine ⟨b3.1, by omega, by omega, ?_⟩
    rw [cds_cg (T := U) (U := lwP U l (T 135)) (f := T 135) (U 135 - T 135).toNat 0 (fun x p q => e _ (by omega) (by omega) (by omega))]
    have := x4 0 [] (by omega) rfl
    rw [List.append_nil] at this
    exact this
  refine ⟨⟨by rw [g 1 (by omega) (by omega)]; exact a1, by rw [g 2 (by omega) (by omega)]; exact a2, by rw [g 3 (by omega) (by omega)]; exact a3, by rw [g 4 (by omega) (by omega)]; exact a4, by rw [g 5 (by omega) (by omega)]; exact a5, by rw [g 6 (by omega) (by omega)]; exact a6, fun y y0 y1 => ?_, fun y y0 y1 => ?_, fun y y0 y1 => ?_, fun y y0 y1 => ?_, fun y y0 y1 => ?_⟩, ⟨fun y y0 y1 hy => ?_, by rw [g 0 (by omega) (by omega)]; omega, by rw [g135]; omega, fun y y0 y1 => by rw [g y (by omega) (by omega)]; exact b4 y y0 y1, fun y y0 y1 => by rw [g 4 (by omega) (by omega)] at y0; rw [g _ (by omega) (by omega), g _ (by omega) (by omega), g _ (by omega) (by omega)]; exact b5 y y0 y1⟩⟩
  · rw [g 6 (by omega) (by omega)] at y1; rw [g _ (by omega) (by omega)]; exact a7 y y0 y1
  · rw [g _ (by omega) (by omega), g _ (by omega) (by omega)]; exact a8 y y0 y1
  · rw [g 3 (by omega) (by omega)] at y1; rw [g _ (by omega) (by omega)]; exact a9 y y0 y1
  · rw [g 4 (by omega) (by omega)] at y1; rw [g 3 (by omega) (by omega), g _ (by omega) (by omega), g _ (by omega) (by omega), g _ (by omega) (by omega), g _ (by omega) (by omega), g _ (by omega) (by omega), g _ (by omega) (by omega), g _ (by omega) (by omega)]; exact a10 y y0 y1
  · by_cases z : y = l
    · rw [z, f7]; exact ⟨Or.inr rfl, fun _ => new⟩
    · have w := a11 y y0 y1
      have k : ∀ c : Int, c = 7 ∨ c = 11 ∨ c = 15 → lwP U l (T 135) (c + y) = T (c + y) := fun c hc => by rw [e _ (by omega) (by omega) (by omega)]; exact x3 _ (by omega) (by omega)
      rw [k 7 (by omega)]
      refine ⟨w.1, fun h1 => (w.2 h1).cg (k 11 (by omega)) (k 15 (by omega)) (fun p p0 p1 => ?_)⟩
      have b := (b1 y y0 y1 h1).1
      have b0 := (w.2 h1).1
      rw [e _ (by omega) (by omega) (by omega)]; exact x3 _ (by omega) (by omega)
  · by_cases z : y = l
    · rw [z, f11, f15, g135]; omega
    · have k : ∀ c : Int, c = 7 ∨ c = 11 ∨ c = 15 → lwP U l (T 135) (c + y) = T (c + y) := fun c hc => by rw [e _ (by omega) (by omega) (by omega)]; exact x3 _ (by omega) (by omega)
      rw [k 7 (by omega)] at hy
      rw [k 11 (by omega), k 15 (by omega), g135]
      have := b1 y y0 y1 hy
      omega
