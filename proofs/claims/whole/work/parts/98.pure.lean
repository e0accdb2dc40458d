/-! what a line leaves as it was -/
theorem numP_i {kd vl : Int → Int} {lo hi j : Int} {T : TB} {k : Int → Int → Rs} (h : (numP kd vl lo hi j T k).1 = 0) : kd j = 1 ∧ (lo ≤ vl j ∧ vl j ≤ hi) ∧ numP kd vl lo hi j T k = k (vl j) (j + 1) := by
  unfold numP at h ⊢
  by_cases a : kd j = 1
  · rw [if_pos a] at h ⊢
    by_cases b : lo ≤ vl j ∧ vl j ≤ hi
    · rw [if_pos b]; exact ⟨a, b, rfl⟩
    · rw [if_neg b] at h; exact absurd h (fP_n (by decide))
  · rw [if_neg a] at h; exact absurd h (fP_n (by decide))
/-- from T to U only codes came, none of the skill but in law 1 -/
def SK (l : Int) (T U : TB) : Prop := 0 ≤ T 135 → T 135 ≤ U 135 ∧ (∀ x : Int, x ≠ 135 → x < 136 + T 135 → U x = T x) ∧ (l ≠ 1 → ∀ x : Int, 136 + T 135 ≤ x → x < 136 + U 135 → U x ≠ 1004)
theorem SK.rf {l : Int} {T : TB} : SK l T T := fun _ => ⟨Int.le_refl _, fun _ _ _ => rfl, fun _ x a b => by omega⟩
theorem SK.tr {l : Int} {T U V : TB} (h : SK l T U) (g : SK l U V) : SK l T V := fun h0 => by
  obtain ⟨a1, a2, a3⟩ := h h0
  obtain ⟨b1, b2, b3⟩ := g (by omega)
  refine ⟨by omega, fun x p q => by rw [b2 x p (by omega)]; exact a2 x p q, fun hl x p q => ?_⟩
  by_cases z : x < 136 + U 135
  · rw [b2 x (by omega) z]; exact a3 hl x p z
  · exact b3 hl x (by omega) q
theorem SK.cd {l c : Int} {T : TB} (hc : c ≠ 1004 ∨ l = 1) : SK l T (cdP T c) := fun h0 => by
  obtain ⟨a, b, e⟩ := cdP_c (c := c) h0
  refine ⟨by omega, fun x p q => e x p (by omega), fun hl x p q => ?_⟩
  rw [show x = 136 + T 135 by omega, b]
  exact hc.elim id (fun z => absurd z hl)
theorem wd_0 {l : Int} : wdP l 0 = -1 := by unfold wdP; (repeat' split) <;> omega
theorem wd_4 {l k : Int} (h : l ≠ 1) : wdP l k ≠ 4 := by unfold wdP; (repeat' split) <;> omega
section
variable {t : Int → Int} {n N : Int} {kd st vl en : Int → Int} {l : Int}
def SKF (N l : Int) (f : Int → TB → Rs) : Prop := ∀ j T, (0 ≤ j ∧ j ≤ N) → (f j T).1 = 0 → (j ≤ (f j T).2.1 ∧ (f j T).2.1 ≤ N) ∧ SK l T (f j T).2.2
theorem seq_sk {f g : Int → TB → Rs} (hf : SKF N l f) (hg : SKF N l g) : SKF N l (fun j T => seqR (f j T) g) := by
  intro j T hj h
  by_cases z : (f j T).1 = 0
  · have e : seqR (f j T) g = g (f j T).2.1 (f j T).2.2 := seqR_0 z
    show (j ≤ (seqR (f j T) g).2.1 ∧ (seqR (f j T) g).2.1 ≤ N) ∧ SK l T (seqR (f j T) g).2.2
    have h2 : (seqR (f j T) g).1 = 0 := h
    rw [e] at h2 ⊢
    obtain ⟨a, b⟩ := hf j T hj z
    obtain ⟨c, d⟩ := hg _ _ ⟨by omega, a.2⟩ h2
    exact ⟨⟨by omega, c.2⟩, b.tr d⟩
  · have e : seqR (f j T) g = f j T := seqR_n z
    have h2 : (seqR (f j T) g).1 = 0 := h
    rw [e] at h2; exact absurd h2 z
theorem bAt_sk (hT : TokOK t n N kd st vl en) {sub : Int → TB → Rs} (hs : ∀ j T, kd j = 40 → (0 ≤ j ∧ j ≤ N) → (sub j T).1 = 0 → (j ≤ (sub j T).2.1 ∧ (sub j T).2.1 ≤ N) ∧ SK l T (sub j T).2.2) : SKF N l (bAt kd vl l sub) := by
  intro j T hj h
  unfold bAt at h ⊢
  by_cases a : kd j = 1
  · rw [if_pos a]
    have jl := kd_lt hT hj (by omega)
    have nb := ((hT.2.1 j hj.1 jl).1).num a
    exact ⟨⟨by show j ≤ j + 1; omega, by show j + 1 ≤ N; omega⟩, SK.cd (Or.inl (by omega))⟩
  · rw [if_neg a] at h ⊢
    by_cases b : wdP l (kd j) ≠ -1
    · rw [if_pos b]
      have jl := kd_lt hT hj (fun z => b (by rw [z]; exact wd_0))
      refine ⟨⟨by show j ≤ j + 1; omega, by show j + 1 ≤ N; omega⟩, SK.cd ?_⟩
      by_cases hl : l = 1
      · exact Or.inr hl
      · have := wd_4 (k := kd j) hl
        exact Or.inl (by omega)
    · rw [if_neg b] at h ⊢
      by_cases c : kd j = 40
      · rw [if_pos c] at h ⊢; exact hs j T c hj h
      · rw [if_neg c] at h; exact absurd h (fP_n (by decide))
theorem pTl_sk (hT : TokOK t n N kd st vl en) {at_ : Int → TB → Rs} (ha : SKF N l at_) : ∀ F : Nat, SKF N l (pTl kd at_ F)
  | 0 => fun j T hj _ => ⟨⟨Int.le_refl _, hj.2⟩, SK.rf⟩
  | F + 1 => fun j T hj h => by
    have e : pTl kd at_ (F + 1) j T = if kd j = 42 then seqR (at_ (j + 1) T) (fun i U => pTl kd at_ F i (cdP U 3002)) else (0, j, T) := rfl
    rw [e] at h ⊢
    by_cases a : kd j = 42
    · rw [if_pos a] at h ⊢
      have jl := kd_lt hT hj (by omega)
      by_cases z : (at_ (j + 1) T).1 = 0
      · rw [seqR_0 z] at h ⊢
        obtain ⟨b, c⟩ := ha (j + 1) T ⟨by omega, by omega⟩ z
        obtain ⟨b2, c2⟩ := pTl_sk hT ha F _ _ ⟨by omega, b.2⟩ h
        exact ⟨⟨by omega, b2.2⟩, c.tr ((SK.cd (Or.inl (by decide))).tr c2)⟩
      · rw [seqR_n z] at h; exact absurd h z
    · rw [if_neg a]; exact ⟨⟨Int.le_refl _, hj.2⟩, SK.rf⟩
theorem pTe_sk (hT : TokOK t n N kd st vl en) {at_ : Int → TB → Rs} (ha : SKF N l at_) : SKF N l (pTe kd at_) := seq_sk ha (pTl_sk hT ha 1000)
theorem pSl_sk (hT : TokOK t n N kd st vl en) {te : Int → TB → Rs} (ha : SKF N l te) : ∀ F : Nat, SKF N l (pSl kd te F)
  | 0 => fun j T hj _ => ⟨⟨Int.le_refl _, hj.2⟩, SK.rf⟩
  | F + 1 => fun j T hj h => by
    have e : pSl kd te (F + 1) j T = if kd j = 43 ∨ kd j = 45 then seqR (te (j + 1) T) (fun i U => pSl kd te F i (cdP U (if kd j = 43 then 3000 else 3001))) else (0, j, T) := rfl
    rw [e] at h ⊢
    by_cases a : kd j = 43 ∨ kd j = 45
    · rw [if_pos a] at h ⊢
      have jl := kd_lt hT hj (by omega)
      by_cases z : (te (j + 1) T).1 = 0
      · rw [seqR_0 z] at h ⊢
        obtain ⟨b, c⟩ := ha (j + 1) T ⟨by omega, by omega⟩ z
        obtain ⟨b2, c2⟩ := pSl_sk hT ha F _ _ ⟨by omega, b.2⟩ h
        exact ⟨⟨by omega, b2.2⟩, c.tr ((SK.cd (Or.inl (by split <;> decide))).tr c2)⟩
      · rw [seqR_n z] at h; exact absurd h z
    · rw [if_neg a]; exact ⟨⟨Int.le_refl _, hj.2⟩, SK.rf⟩
theorem pSu_sk (hT : TokOK t n N kd st vl en) {at_ : Int → TB → Rs} (ha : SKF N l at_) : SKF N l (pSu kd at_) := seq_sk (pTe_sk hT ha) (pSl_sk hT (pTe_sk hT ha) 1000)
theorem pAt_sk (hT : TokOK t n N kd st vl en) : ∀ m : Nat, SKF N l (pAt kd vl l m)
  | 0 => bAt_sk hT (fun j T _ _ h => absurd h (fP_n (by decide)))
  | m + 1 => bAt_sk hT (fun j T c hj h => by
    have jl := kd_lt hT hj (by omega)
    unfold parP at h ⊢
    by_cases z : (pSu kd (pAt kd vl l m) (j + 1) T).1 = 0
    · rw [seqR_0 z] at h ⊢
      obtain ⟨a, b⟩ := pSu_sk hT (pAt_sk hT m) (j + 1) T ⟨by omega, by omega⟩ z
      by_cases y : kd (pSu kd (pAt kd vl l m) (j + 1) T).2.1 = 41
      · rw [if_pos y]
        have il := kd_lt hT ⟨by omega, a.2⟩ (by omega : kd (pSu kd (pAt kd vl l m) (j + 1) T).2.1 ≠ 0)
        exact ⟨⟨by show j ≤ (pSu kd (pAt kd vl l m) (j + 1) T).2.1 + 1; omega, by show (pSu kd (pAt kd vl l m) (j + 1) T).2.1 + 1 ≤ N; omega⟩, b⟩
      · rw [if_neg y] at h; exact absurd h (fP_n (by decide))
    · rw [seqR_n z] at h; exact absurd h z)
end
/-- what holds of the laws that are told -/
def NK (T : TB) : Prop := ∀ l : Int, 0 ≤ l → l < 4 → T (7 + l) = 1 → (0 ≤ T (11 + l) ∧ T (11 + l) + T (15 + l) ≤ T 135) ∧ (l ≠ 1 → ∀ x : Int, T (11 + l) ≤ x → x < T (11 + l) + T (15 + l) → T (136 + x) ≠ 1004)
def PK (T : TB) : Prop := NK T ∧ 0 ≤ T 135 ∧ (0 ≤ T 2 ∧ T 2 ≤ 3) ∧ (0 ≤ T 3 ∧ T 3 ≤ 4) ∧ (0 ≤ T 4 ∧ T 4 ≤ 6)
theorem PK.cg {T U : TB} (h : PK T) (e : ∀ x : Int, 7 ≤ x → x < 19 → U x = T x) (e2 : ∀ x : Int, 135 ≤ x → U x = T x) (h2 : 0 ≤ U 2 ∧ U 2 ≤ 3) (h3 : 0 ≤ U 3 ∧ U 3 ≤ 4) (h4 : 0 ≤ U 4 ∧ U 4 ≤ 6) : PK U := by
  refine ⟨fun l l0 l1 hl => ?_, by rw [e2 135 (by omega)]; exact h.2.1, h2, h3, h4⟩
  rw [e (7 + l) (by omega) (by omega)] at hl
  rw [e (11 + l) (by omega) (by omega), e (15 + l) (by omega) (by omega), e2 135 (by omega)]
  obtain ⟨a, b⟩ := h.1 l l0 l1 hl
  exact ⟨a, fun hn x x0 x1 => by rw [e2 _ (by omega)]; exact b hn x x0 x1⟩
section
variable {t : Int → Int} {n N : Int} {kd st vl en : Int → Int}
theorem pHl_i {T : TB} {k : Int → Int → Rs} : ∀ (F : Nat) (j s : Int), (pHl kd vl T k F j s).1 = 0 → (∃ s2 i2, pHl kd vl T k F j s = k s2 i2) ∨ ∃ i2, pHl kd vl T k F j s = (0, i2, T)
  | 0, j, s, _ => Or.inr ⟨j, rfl⟩
  | F + 1, j, s, h => by
    have e : pHl kd vl T k (F + 1) j s = numP kd vl 0 3 j T (fun v i => if kd i = 1 then pHl kd vl T k F i (ior s (ish 1 v)) else k (ior s (ish 1 v)) i) := rfl
    rw [e] at h ⊢
    have c : numP kd vl 0 3 j T (fun v i => if kd i = 1 then pHl kd vl T k F i (ior s (ish 1 v)) else k (ior s (ish 1 v)) i) = if kd (j + 1) = 1 then pHl kd vl T k F (j + 1) (ior s (ish 1 (vl j))) else k (ior s (ish 1 (vl j))) (j + 1) := (numP_i h).2.2
    rw [c] at h ⊢
    by_cases a : kd (j + 1) = 1
    · rw [if_pos a] at h ⊢; exact pHl_i F _ _ h
    · rw [if_neg a]; exact Or.inl ⟨_, _, rfl⟩
theorem pFl_i {T : TB} (h4 : 0 ≤ T 4 ∧ T 4 < 6) : ∀ (F : Nat) (j : Int) (U : TB), U 4 = T 4 → (∀ y : Int, (y < 37 ∨ 79 ≤ y) → U y = T y) → (pFl kd vl F j U).1 = 0 → (∀ y : Int, (y < 37 ∨ 79 ≤ y) → y ≠ 4 → (pFl kd vl F j U).2.2 y = T y) ∧ (0 ≤ (pFl kd vl F j U).2.2 4 ∧ (pFl kd vl F j U).2.2 4 ≤ 6)
  | 0, j, U, u4, hU, _ => ⟨fun y p _ => hU y p, by show 0 ≤ U 4 ∧ U 4 ≤ 6; omega⟩
  | F + 1, j, U, u4, hU, h => by
    have e : pFl kd vl (F + 1) j U = if 207 ≤ kd j ∧ kd j ≤ 210 then numP kd vl (if kd j = 207 then 1 else 0) (if kd j ≤ 208 then 99 else 9) (j + 1) U (fun v i => pFl kd vl F i (upT U (37 + 6 * (kd j - 205) + U 4) v)) else if kd j = 211 then (if kd (j + 1) = 212 then pFl kd vl F (j + 2) (upT U (73 + U 4) 1) else if kd (j + 1) = 213 then pFl kd vl F (j + 2) (upT U (73 + U 4) 2) else fP kd 2 (j + 1) U) else (0, j, upT U 4 (U 4 + 1)) := rfl
    have st : ∀ (x v : Int), 37 ≤ x ∧ x < 79 → upT U x v 4 = T 4 ∧ ∀ y : Int, (y < 37 ∨ 79 ≤ y) → upT U x v y = T y := fun x v hx => ⟨by rw [upT_n (by omega)]; exact u4, fun y p => by rw [upT_n (by omega)]; exact hU y p⟩
    rw [e] at h ⊢
    by_cases a : 207 ≤ kd j ∧ kd j ≤ 210
    · rw [if_pos a] at h ⊢
      have c : numP kd vl (if kd j = 207 then 1 else 0) (if kd j ≤ 208 then 99 else 9) (j + 1) U (fun v i => pFl kd vl F i (upT U (37 + 6 * (kd j - 205) + U 4) v)) = pFl kd vl F (j + 1 + 1) (upT U (37 + 6 * (kd j - 205) + U 4) (vl (j + 1))) := (numP_i h).2.2
      rw [c] at h ⊢
      have s := st (37 + 6 * (kd j - 205) + U 4) (vl (j + 1)) (by omega)
      exact pFl_i h4 F _ _ s.1 s.2 h
    · rw [if_neg a] at h ⊢
      by_cases b : kd j = 211
      · rw [if_pos b] at h ⊢
        by_cases c : kd (j + 1) = 212
        · rw [if_pos c] at h ⊢
          have s := st (73 + U 4) 1 (by omega)
          exact pFl_i h4 F _ _ s.1 s.2 h
        · rw [if_neg c] at h ⊢
          by_cases d : kd (j + 1) = 213
          · rw [if_pos d] at h ⊢
            have s := st (73 + U 4) 2 (by omega)
            exact pFl_i h4 F _ _ s.1 s.2 h
          · rw [if_neg d] at h; exact absurd h (fP_n (by decide))
      · rw [if_neg b]
        refine ⟨fun y p q => ?_, ?_⟩
        · show upT U 4 (U 4 + 1) y = T y
          rw [upT_n q]; exact hU y p
        · show 0 ≤ upT U 4 (U 4 + 1) 4 ∧ upT U 4 (U 4 + 1) 4 ≤ 6
          rw [upT_s]; omega
theorem pLine_pk (hT : TokOK t n N kd st vl en) {j : Int} {T : TB} (hP : PK T) (hj : 0 ≤ j ∧ j < N) (h : (pLine kd vl st t j T).1 = 0) : PK (pLine kd vl st t j T).2.2 ∧ (pLine kd vl st t j T).2.2 0 = T 0 := by
  obtain ⟨hN, p135, p2, p3, p4⟩ := id hP
  unfold pLine at h ⊢
  by_cases c1 : kd j = 202
  · rw [if_pos c1] at h ⊢
    unfold pHand at h ⊢
    by_cases a : T 2 = 3
    · rw [if_pos a] at h; exact absurd h (fP_n (by decide))
    · rw [if_neg a] at h ⊢
      rcases pHl_i _ _ _ h with ⟨s, i, e⟩ | ⟨i, e⟩
      · rw [e] at h ⊢
        have e2 : ∃ i2 v, pSk kd vl T s i = (0, i2, hdP T s v) := by
          unfold pSk at h ⊢
          by_cases b : kd i = 203
          · rw [if_pos b] at h ⊢; exact ⟨_, _, (numP_i h).2.2⟩
          · rw [if_neg b]; exact ⟨_, _, rfl⟩
        obtain ⟨i2, v, e2⟩ := e2
        rw [e2]
        have g : ∀ y : Int, y ≠ 27 + T 2 → y ≠ 30 + T 2 → y ≠ 2 → hdP T s v y = T y := fun y a b c => by unfold hdP; rw [upT_n c, upT_n b, upT_n a]
        have g2 : hdP T s v 2 = T 2 + 1 := upT_s
        refine ⟨hP.cg (fun x _ _ => g x (by omega) (by omega) (by omega)) (fun x _ => g x (by omega) (by omega) (by omega)) ?_ ?_ ?_, g 0 (by omega) (by omega) (by omega)⟩
        · show 0 ≤ hdP T s v 2 ∧ hdP T s v 2 ≤ 3
          rw [g2]; omega
        · show 0 ≤ hdP T s v 3 ∧ hdP T s v 3 ≤ 4
          rw [g 3 (by omega) (by omega) (by omega)]; exact p3
        · show 0 ≤ hdP T s v 4 ∧ hdP T s v 4 ≤ 6
          rw [g 4 (by omega) (by omega) (by omega)]; exact p4
      · rw [e]; exact ⟨hP, rfl⟩
  · rw [if_neg c1] at h ⊢
    by_cases c2 : kd j = 204
    · rw [if_pos c2] at h ⊢
      unfold pCourt at h ⊢
      by_cases a : T 3 = 4
      · rw [if_pos a] at h; exact absurd h (fP_n (by decide))
      · rw [if_neg a] at h ⊢
        rw [(numP_i h).2.2]
        have g : ∀ y : Int, y ≠ 33 + T 3 → y ≠ 3 → ctP T (vl (j + 1)) y = T y := fun y a b => by unfold ctP; rw [upT_n b, upT_n a]
        have g3 : ctP T (vl (j + 1)) 3 = T 3 + 1 := upT_s
        refine ⟨hP.cg (fun x _ _ => g x (by omega) (by omega)) (fun x _ => g x (by omega) (by omega)) ?_ ?_ ?_, g 0 (by omega) (by omega)⟩
        · show 0 ≤ ctP T (vl (j + 1)) 2 ∧ ctP T (vl (j + 1)) 2 ≤ 3
          rw [g 2 (by omega) (by omega)]; exact p2
        · show 0 ≤ ctP T (vl (j + 1)) 3 ∧ ctP T (vl (j + 1)) 3 ≤ 4
          rw [g3]; omega
        · show 0 ≤ ctP T (vl (j + 1)) 4 ∧ ctP T (vl (j + 1)) 4 ≤ 6
          rw [g 4 (by omega) (by omega)]; exact p4
    · rw [if_neg c2] at h ⊢
      by_cases c3 : kd j = 205
      · rw [if_pos c3] at h ⊢
        unfold pLetter at h ⊢
        by_cases a : T 4 = 6
        · rw [if_pos a] at h; exact absurd h (fP_n (by decide))
        · rw [if_neg a] at h ⊢
          have c : numP kd vl 0 (T 3 - 1) (j + 1) T (fun v i => if kd i = 206 then numP kd vl 0 3 (i + 1) T (fun w i2 => pFl kd vl 1000 i2 (ltP T v w)) else fP kd 2 i T) = if kd (j + 1 + 1) = 206 then numP kd vl 0 3 (j + 1 + 1 + 1) T (fun w i2 => pFl kd vl 1000 i2 (ltP T (vl (j + 1)) w)) else fP kd 2 (j + 1 + 1) T := (numP_i h).2.2
          rw [c] at h ⊢
          by_cases b : kd (j + 1 + 1) = 206
          · rw [if_pos b] at h ⊢
            have c2 : numP kd vl 0 3 (j + 1 + 1 + 1) T (fun w i2 => pFl kd vl 1000 i2 (ltP T (vl (j + 1)) w)) = pFl kd vl 1000 (j + 1 + 1 + 1 + 1) (ltP T (vl (j + 1)) (vl (j + 1 + 1 + 1))) := (numP_i h).2.2
            rw [c2] at h ⊢
            have g : ∀ y : Int, (y < 37 ∨ 79 ≤ y) → ltP T (vl (j + 1)) (vl (j + 1 + 1 + 1)) y = T y := fun y p => by unfold ltP; rw [upT_n (by omega), upT_n (by omega), upT_n (by omega), upT_n (by omega)]
            obtain ⟨r1, r2⟩ := pFl_i (T := T) (kd := kd) (vl := vl) ⟨p4.1, by omega⟩ 1000 _ _ (g 4 (by omega)) g h
            refine ⟨hP.cg (fun x _ _ => r1 x (by omega) (by omega)) (fun x _ => r1 x (by omega) (by omega)) ?_ ?_ r2, r1 0 (by omega) (by omega)⟩
            · rw [r1 2 (by omega) (by omega)]; exact p2
            · rw [r1 3 (by omega) (by omega)]; exact p3
          · rw [if_neg b] at h; exact absurd h (fP_n (by decide))
      · rw [if_neg c3] at h ⊢
        by_cases c4 : 214 ≤ kd j ∧ kd j ≤ 217
        · rw [if_pos c4] at h ⊢
          generalize hl : kd j - 214 = l at h ⊢
          have l4 : 0 ≤ l ∧ l < 4 := by omega
          unfold pLaw at h ⊢
          by_cases a : kd (j + 1) = 58
          · rw [if_pos a] at h ⊢
            have jl := kd_lt hT (j := j + 1) ⟨by omega, by omega⟩ (by omega)
            by_cases z : (pSu kd (pAt kd vl l 6) (j + 2) T).1 = 0
            · rw [seqR_0 z] at h ⊢
              obtain ⟨b, c⟩ := pSu_sk hT (pAt_sk hT 6) (j + 2) T ⟨by omega, by omega⟩ z
              generalize (pSu kd (pAt kd vl l 6) (j + 2) T).2.2 = U at c ⊢
              obtain ⟨x1, x2, x3⟩ := c p135
              show PK (lwP U l (T 135)) ∧ lwP U l (T 135) 0 = T 0
              have e7 : ∀ y : Int, y ≠ 7 + l → y ≠ 11 + l → y ≠ 15 + l → lwP U l (T 135) y = U y := fun y p q r => by unfold lwP; rw [upT_n r, upT_n q, upT_n p]
              have f11 : lwP U l (T 135) (11 + l) = T 135 := by unfold lwP; rw [upT_n (by omega), upT_s]
              have f15 : lwP U l (T 135) (15 + l) = U 135 - T 135 := upT_s
              have f135 : lwP U l (T 135) 135 = U 135 := e7 135 (by omega) (by omega) (by omega)
              have lo : ∀ y : Int, y < 135 → y ≠ 7 + l → y ≠ 11 + l → y ≠ 15 + l → lwP U l (T 135) y = T y := fun y p q r s => by rw [e7 y q r s]; exact x2 y (by omega) (by omega)
              refine ⟨⟨fun y y0 y1 hy => ?_, by omega, ?_, ?_, ?_⟩, lo 0 (by omega) (by omega) (by omega) (by omega)⟩
              · by_cases q : y = l
                · subst q
                  rw [f11, f15, f135]
                  refine ⟨by omega, fun hn x a b => ?_⟩
                  rw [e7 _ (by omega) (by omega) (by omega)]
                  exact x3 hn _ (by omega) (by omega)
                · rw [lo (7 + y) (by omega) (by omega) (by omega) (by omega)] at hy
                  obtain ⟨u, v⟩ := hN y y0 y1 hy
                  rw [lo (11 + y) (by omega) (by omega) (by omega) (by omega), lo (15 + y) (by omega) (by omega) (by omega) (by omega), f135]
                  refine ⟨⟨u.1, by omega⟩, fun hn x a b => ?_⟩
                  rw [e7 _ (by omega) (by omega) (by omega), x2 _ (by omega) (by omega)]
                  exact v hn x a b
              · rw [lo 2 (by omega) (by omega) (by omega) (by omega)]; exact p2
              · rw [lo 3 (by omega) (by omega) (by omega) (by omega)]; exact p3
              · rw [lo 4 (by omega) (by omega) (by omega) (by omega)]; exact p4
            · rw [seqR_n z] at h; exact absurd h z
          · rw [if_neg a] at h; exact absurd h (fP_n (by decide))
        · rw [if_neg c4] at h ⊢
          by_cases c5 : kd j = 218
          · rw [if_pos c5] at h ⊢
            unfold pPrior at h ⊢
            rw [(numP_i h).2.2]
            have g : ∀ y : Int, y ≠ 5 → upT T 5 (vl (j + 1)) y = T y := fun y a => upT_n a
            refine ⟨hP.cg (fun x _ _ => g x (by omega)) (fun x _ => g x (by omega)) ?_ ?_ ?_, g 0 (by omega)⟩
            · show 0 ≤ upT T 5 (vl (j + 1)) 2 ∧ upT T 5 (vl (j + 1)) 2 ≤ 3
              rw [g 2 (by omega)]; exact p2
            · show 0 ≤ upT T 5 (vl (j + 1)) 3 ∧ upT T 5 (vl (j + 1)) 3 ≤ 4
              rw [g 3 (by omega)]; exact p3
            · show 0 ≤ upT T 5 (vl (j + 1)) 4 ∧ upT T 5 (vl (j + 1)) 4 ≤ 6
              rw [g 4 (by omega)]; exact p4
          · rw [if_neg c5] at h ⊢
            by_cases c6 : kd j = 219
            · rw [if_pos c6] at h ⊢
              unfold pName at h ⊢
              by_cases a : 200 ≤ kd (j + 1) ∧ vl (j + 1) ≤ 8
              · rw [if_pos a]
                have g : ∀ y : Int, y ≠ 6 → (y < 19 ∨ 27 ≤ y) → upT (nmP t (st (j + 1)) T (vl (j + 1)).toNat) 6 (vl (j + 1)) y = T y := fun y p q => by rw [upT_n p]; exact nmP_n _ _ (by omega)
                refine ⟨hP.cg (fun x _ _ => g x (by omega) (by omega)) (fun x _ => g x (by omega) (by omega)) ?_ ?_ ?_, g 0 (by omega) (by omega)⟩
                · have := g 2 (by omega) (by omega)
                  dsimp only; rw [this]; exact p2
                · have := g 3 (by omega) (by omega)
                  dsimp only; rw [this]; exact p3
                · have := g 4 (by omega) (by omega)
                  dsimp only; rw [this]; exact p4
              · rw [if_neg a] at h; exact absurd h (fP_n (by decide))
            · rw [if_neg c6] at h; exact absurd h (fP_n (by decide))
end
