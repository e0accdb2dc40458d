/-! the class's Row -/
def FbA (σ : Mem) (a : Nat) (g : GG) : RL → Prop
  | [] => True
  | x :: R => σ a R.length = fre g R x.2 ∧ FbA σ a g R
theorem FbA.congr {σ τ : Mem} {a : Nat} {g : GG} : ∀ {R : RL}, FbA σ a g R → (∀ i : Int, 0 ≤ i → i < R.length → τ a i = σ a i) → FbA τ a g R
  | [], _, _ => trivial
  | x :: R, h, q => ⟨by rw [q R.length (by omega) (by simp only [List.length_cons]; omega)]; exact h.1, FbA.congr h.2 (fun i h0 hi => q i h0 (by simp only [List.length_cons]; omega))⟩
/-- the letters in a row, as bits -/
def tkn : RL → Int
  | [] => 0
  | x :: R => ior (tkn R) (ish 1 x.1)
def RowC (σ : Mem) (w : Nat) (g : GG) (R : RL) : Prop := σ w 1 = R.length ∧ R.length ≤ 6 ∧ σ w 2 = tkn R ∧ RowA σ (w + 1) (w + 2) (w + 3) (w + 4) g R ∧ (∀ h : Int, 0 ≤ h → h < 3 → σ (w + 8) h = fre g R h) ∧ FbA σ (w + 6) g R ∧ OrdOK (σ (w + 7)) (copAt g R) R.length
def rowS (w : Nat) : List Nat := [w, w + 1, w + 2, w + 3, w + 4, w + 5, w + 6, w + 7, w + 8]
/-- THE ROOM's minutes, of letters and hands that are there -/
def HG (σ : Mem) (g : GG) : Prop := (∀ k : Int, 0 ≤ k → k < σ 2 3 → σ 8 k = g.1 k ∧ σ 9 k = g.2.1 k) ∧ (∀ k h : Int, 0 ≤ k → k < σ 2 3 → 0 ≤ h → h < σ 2 1 → σ 11 (3 * k + h) = g.2.2 k h)
def inR (σ : Mem) (x : Int × Int) : Prop := (0 ≤ x.1 ∧ x.1 < σ 2 3) ∧ (0 ≤ x.2 ∧ x.2 < σ 2 1)
variable {E : EN} {d : Nat} {σ : Mem} {w : Nat} {g : GG} {R : RL}
/-- Arrays.fill of ints -/
theorem s_fillI {K : Mem → Prop} {r n : Nat} {v : Int} (hs : sh r = (20, n)) (hn : n < 2147483648) (q : ∀ τ : Mem, Fr [r] σ τ → (∀ i : Int, 0 ≤ i → i < n → τ r i = v) → (∀ i : Int, ¬ (0 ≤ i ∧ i < n) → τ r i = σ r i) → K τ) : CV E y_Arr_fill_AII d [vr r, vi v] σ K := by
  have hi : i32 n := ⟨by omega, by omega⟩
  refine c_Arr_fill_AII (n0 := n) (b_Arr_fill_AII_0 hs hi ?_)
  have loop : ∀ (m : Nat) (j : Int) (τ : Mem), 0 ≤ j → j + m = n → Fr [r] σ τ → (∀ i : Int, 0 ≤ i → i < j → τ r i = v) → (∀ i : Int, ¬ (0 ≤ i ∧ i < j) → τ r i = σ r i) → Z E y_Arr_fill_AII d 5 [some (vr r), some (vi v), some (vi j), some (vi (n : Nat))] [] τ (qv K) := by
    intro m
    induction m with
    | zero =>
      intro j τ h0 hj hF h1 h2
      refine b_Arr_fill_AII_5 hs hi ⟨fun _ => q τ hF (fun i a b => h1 i a (by omega)) (fun i a => h2 i (by omega)), fun z => absurd z (by omega)⟩
    | succ m ih =>
      intro j τ h0 hj hF h1 h2
      refine b_Arr_fill_AII_5 hs hi ⟨fun z => absurd z (by omega), fun _ => ⟨by omega, ?_⟩⟩
      rw [wid (by omega) (by omega)]
      refine ih (j + 1) _ (by omega) (by omega) (hF.up (by simp)) (fun i a b => ?_) (fun i a => ?_)
      · by_cases e : i = j
        · subst e; exact up_same _ _ _ _
        · rw [up_nk e]; exact h1 i a (by omega)
      · rw [up_nk (by omega)]; exact h2 i (by omega)
  exact loop n 0 σ (by omega) (by omega) Fr.rf (fun i a b => absurd b (by omega)) (fun i a => rfl)
theorem s_Row_clear {K : Mem → Prop} (hw : isRow w) (hd : 1 ≤ d) (q : ∀ τ : Mem, Fr (rowS w) σ τ → RowC τ w g [] → K τ) : CV E y_Row_clear d [vr w] σ K := by
  refine c_Row_clear (b_Row_clear_0 hw hd (s_fillI (n := 3) (shRow_8 hw) (by omega) (fun τ hF h1 h2 => q τ ?_ ?_)))
  · intro c hc
    have hc8 : c ≠ w + 8 := fun e => hc (by simp [rowS, e])
    have hc0 : c ≠ w := fun e => hc (by simp [rowS, e])
    rw [hF c (by simpa using hc8), up_cell hc0, up_cell hc0]
  · have e : ∀ c, c ≠ w + 8 → τ c = up (up σ w 1 0) w 2 0 c := fun c hc => hF c (by simpa using hc)
    refine ⟨?_, by simp, ?_, trivial, fun h h0 hh => h1 h h0 (by omega), trivial, ⟨fun i a b => absurd b (by simp; omega), fun i j a b c => absurd c (by simp; omega), fun p a b => absurd b (by simp; omega)⟩⟩
    · rw [e w (by omega), up_nk (by decide), up_same]; rfl
    · rw [e w (by omega), up_same]; rfl
theorem s_Row_lastOpened {K : Int → Mem → Prop} (hw : isRow w) (hR : RowC σ w g R) (q : K (opn g R) σ) : CI E y_Row_lastOpened d [vr w] σ K := by
  refine c_Row_lastOpened (b_Row_lastOpened_0 hw ?_)
  obtain ⟨h1, h2, h3, h4, -⟩ := hR
  cases R with
  | nil => rw [h1]; exact ⟨fun _ => q, fun z => absurd z (by simp)⟩
  | cons x R =>
    rw [h1]
    simp only [List.length_cons] at h2 ⊢
    refine ⟨fun z => absurd z (by omega), fun _ => ⟨fun z => absurd z (by omega), fun _ => ?_⟩⟩
    rw [wid (by omega) (by omega), show ((R.length + 1 : Nat) : Int) - 1 = R.length by omega]
    refine ⟨by omega, ?_⟩
    rw [h4.2.2.1]; exact q
theorem s_Row_copiedIf {K : Int → Mem → Prop} {x : Int × Int} (hw : isRow w) (hd : 1 ≤ d) (hB : RB σ 2) (hG : HG σ g) (hx : inR σ x) (hb : Gb g x) (hRb : Rb g R) (hR : RowC σ w g R) (q : K (cpd g x R) σ) : CI E y_Row_copiedIf d [vr w, vi x.1, vi x.2] σ K := by
  have hr : isRoom 2 := Or.inl rfl
  obtain ⟨B1, B2, B3⟩ := hB
  refine c_Row_copiedIf (b_Row_copiedIf_0 hw hd (s_Room_hasLetter hr B3.2 (fun _ => ⟨fun z => absurd z (by decide), fun _ => s_Room_hasHand hr B1.2 (fun _ => ⟨fun _ => s_Row_lastOpened hw hR ⟨by have := hx.1; omega, by have := hx.2; omega, s_Math_max ?_⟩, fun z => absurd z (by decide)⟩) (fun z => absurd hx.2 z)⟩) (fun z => absurd hx.1 z)))
  obtain ⟨⟨a1, a2⟩, ⟨a3, a4⟩⟩ := hx
  have ho := opn_b hRb
  have hf := fre_b hRb x.2
  have hl := hR.2.1
  obtain ⟨b1, b2, b3⟩ := hb
  rw [(hG.1 x.1 a1 a2).1, hR.2.2.2.2.1 x.2 a3 (by omega), wid (x := opn g R + g.1 x.1) (by omega) (by omega), wid (x := x.1 * 3) (by omega) (by omega), wid (x := x.1 * 3 + x.2) (by omega) (by omega), Int.mul_comm x.1 3, hG.2 x.1 x.2 a1 a2 a3 a4, wid (by omega) (by omega)]
  exact ⟨by omega, q⟩
/-- where the new one comes to the table to mend -/
theorem ord_add {o o2 c c2 : Int → Int} {n at0 dn : Int} (hn : 0 ≤ n) (h : OrdOK o c n) (ha : 0 ≤ at0 ∧ at0 ≤ n) (h1 : ∀ i, 0 ≤ i → i < at0 → o2 i = o i) (h2 : o2 at0 = n) (h3 : ∀ i, at0 ≤ i → i < n → o2 (i + 1) = o i) (hlo : ∀ i, 0 ≤ i → i < at0 → c (o i) ≤ dn) (hhi : ∀ i, at0 ≤ i → i < n → dn < c (o i)) (hc : ∀ p, 0 ≤ p → p < n → c2 p = c p) (hcn : c2 n = dn) : OrdOK o2 c2 (n + 1) := by
  have val : ∀ i, 0 ≤ i → i < n + 1 → (i < at0 ∧ o2 i = o i) ∨ (i = at0 ∧ o2 i = n) ∨ (at0 < i ∧ o2 i = o (i - 1)) := by
    intro i i0 i1
    rcases Int.lt_trichotomy i at0 with q | q | q
    · exact Or.inl ⟨q, h1 i i0 q⟩
    · subst q; exact Or.inr (Or.inl ⟨rfl, h2⟩)
    · have := h3 (i - 1) (by omega) (by omega)
      rw [show i - 1 + 1 = i by omega] at this
      exact Or.inr (Or.inr ⟨q, this⟩)
  have rg : ∀ i, 0 ≤ i → i < n → 0 ≤ o i ∧ o i < n := h.1
  refine ⟨fun i i0 i1 => ?_, fun i j i0 ij jn => ?_, fun p p0 pn => ?_⟩
  · rcases val i i0 i1 with ⟨a, b⟩ | ⟨a, b⟩ | ⟨a, b⟩
    · have := rg i i0 (by omega); omega
    · omega
    · have := rg (i - 1) (by omega) (by omega); omega
  · rcases val i i0 (by omega) with ⟨a, b⟩ | ⟨a, b⟩ | ⟨a, b⟩ <;> rcases val j (by omega) jn with ⟨a', b'⟩ | ⟨a', b'⟩ | ⟨a', b'⟩
    · have r1 := rg i i0 (by omega); have r2 := rg j (by omega) (by omega)
      have := h.2.1 i j i0 ij (by omega)
      unfold lexl at *; rw [b, b', hc _ r1.1 r1.2, hc _ r2.1 r2.2]; exact this
    · have r1 := rg i i0 (by omega)
      have := hlo i i0 a
      unfold lexl; rw [b, b', hc _ r1.1 r1.2, hcn]; omega
    · have r1 := rg i i0 (by omega); have r2 := rg (j - 1) (by omega) (by omega)
      have := h.2.1 i (j - 1) i0 (by omega) (by omega)
      unfold lexl at *; rw [b, b', hc _ r1.1 r1.2, hc _ r2.1 r2.2]; exact this
    · omega
    · omega
    · have r2 := rg (j - 1) (by omega) (by omega)
      have := hhi (j - 1) (by omega) (by omega)
      unfold lexl; rw [b, b', hc _ r2.1 r2.2, hcn]; omega
    · omega
    · omega
    · have r1 := rg (i - 1) (by omega) (by omega); have r2 := rg (j - 1) (by omega) (by omega)
      have := h.2.1 (i - 1) (j - 1) (by omega) (by omega) (by omega)
      unfold lexl at *; rw [b, b', hc _ r1.1 r1.2, hc _ r2.1 r2.2]; exact this
  · by_cases e : p = n
    · subst e; exact ⟨at0, by omega, by omega, h2⟩
    · obtain ⟨i, i0, i1, i2⟩ := h.2.2 p p0 (by omega)
      by_cases q : i < at0
      · exact ⟨i, i0, by omega, by rw [h1 i i0 q]; exact i2⟩
      · exact ⟨i + 1, by omega, by omega, by rw [h3 i (by omega) i1]; exact i2⟩
theorem Fr.one {c : Nat} {σ τ : Mem} (h : Fr [c] σ τ) {c' : Nat} (hc : c' ≠ c) : τ c' = σ c' := h c' (by simpa using hc)
theorem s_Row_add {K : Mem → Prop} {x : Int × Int} (hw : isRow w) (hd : 1 ≤ d) (hB : RB σ 2) (hG : HG σ g) (hx : inR σ x) (hb : Gb g x) (hRb : Rb g R) (hR : RowC σ w g R) (hl : R.length < 6) (q : ∀ τ : Mem, Fr (rowS w) σ τ → RowC τ w g (x :: R) → K τ) : CV E y_Row_add d [vr w, vi x.1, vi x.2] σ K := by
  have hr : isRoom 2 := Or.inl rfl
  obtain ⟨B1, B2, B3⟩ := hB
  have hR0 := hR
  obtain ⟨h1, h2, h3, h4, h5, h6, h7⟩ := hR
  obtain ⟨⟨a1, a2⟩, ⟨a3, a4⟩⟩ := id hx
  have ho := opn_b hRb
  have hf := fre_b hRb x.2
  have hcb := cpd_b hb hRb
  obtain ⟨b1, b2, b3⟩ := id hb
  refine c_Row_add (b_Row_add_0 hw hd ⟨fun z => absurd z (by omega), fun _ => s_Room_hasLetter hr B3.2 (fun _ => ⟨fun z => absurd z (by decide), fun _ => s_Room_hasHand hr B1.2 (fun _ => ⟨fun _ => s_Row_lastOpened hw hR0 ⟨by omega, by omega, s_Math_max ?_⟩, fun z => absurd z (by decide)⟩) (fun z => absurd hx.2 z)⟩) (fun z => absurd hx.1 z)⟩)
  rw [(hG.1 x.1 a1 a2).1, h5 x.2 a3 (by omega), wid (x := opn g R + g.1 x.1) (by omega) (by omega), wid (x := x.1 * 3) (by omega) (by omega), wid (x := x.1 * 3 + x.2) (by omega) (by omega), Int.mul_comm x.1 3, hG.2 x.1 x.2 a1 a2 a3 a4, wid (x := max (opn g R + g.1 x.1) (fre g R x.2) + g.2.2 x.1 x.2) (by omega) (by omega)]
  change (0 ≤ 3 * x.1 + x.2 ∧ 3 * x.1 + x.2 < 18) ∧ (0 ≤ σ w 1 ∧ σ w 1 < 6) ∧ Z E y_Row_add d 155 [some (vr w), some (vi x.1), some (vi x.2), some (vi (opn g R + g.1 x.1)), some (vi (cpd g x R)), some (vi (σ w 1))] [] (up (up (up (up (up (up (up σ (w + 1) (σ w 1) x.1) (w + 2) (σ w 1) x.2) (w + 3) (σ w 1) (opn g R + g.1 x.1)) (w + 4) (σ w 1) (cpd g x R)) (w + 6) (σ w 1) (fre g R x.2)) (w + 8) x.2 (cpd g x R)) w 2 (ior (σ w 2) (ish 1 x.1))) (qv K)
  refine ⟨by omega, by omega, ?_⟩
  generalize hM : (up (up (up (up (up (up (up σ (w + 1) (σ w 1) x.1) (w + 2) (σ w 1) x.2) (w + 3) (σ w 1) (opn g R + g.1 x.1)) (w + 4) (σ w 1) (cpd g x R)) (w + 6) (σ w 1) (fre g R x.2)) (w + 8) x.2 (cpd g x R)) w 2 (ior (σ w 2) (ish 1 x.1))) = M
  have m1 : M (w + 1) = up σ (w + 1) R.length x.1 (w + 1) := by rw [← hM, ← h1]; repeat rw [up_cell (by omega)]
  have m2 : M (w + 2) = up σ (w + 2) R.length x.2 (w + 2) := by
    rw [← hM, ← h1]; repeat rw [up_cell (c' := w + 2) (by omega)]
    funext i; simp only [up]; simp
  have m3 : ∀ i, M (w + 3) i = if i = R.length then opn g R + g.1 x.1 else σ (w + 3) i := by intro i; rw [← hM, ← h1]; simp [up]
  have m4 : ∀ i, M (w + 4) i = if i = R.length then cpd g x R else σ (w + 4) i := by intro i; rw [← hM, ← h1]; simp [up]
  have m6 : ∀ i, M (w + 6) i = if i = R.length then fre g R x.2 else σ (w + 6) i := by intro i; rw [← hM, ← h1]; simp [up]
  have m8 : ∀ i, M (w + 8) i = if i = x.2 then cpd g x R else σ (w + 8) i := by intro i; rw [← hM]; simp [up]
  have m7 : M (w + 7) = σ (w + 7) := by rw [← hM]; repeat rw [up_cell (by omega)]
  have mw1 : M w 1 = R.length := by rw [← hM, ← h1]; simp [up]
  have mw2 : M w 2 = tkn (x :: R) := by rw [← hM, h3]; simp [up, tkn]
  have mo : ∀ c, c ∉ rowS w → M c = σ c := by
    intro c hc
    have n0 : c ≠ w := fun e => hc (by simp [rowS, e])
    have n1 : c ≠ w + 1 := fun e => hc (by simp [rowS, e])
    have n2 : c ≠ w + 2 := fun e => hc (by simp [rowS, e])
    have n3 : c ≠ w + 3 := fun e => hc (by simp [rowS, e])
    have n4 : c ≠ w + 4 := fun e => hc (by simp [rowS, e])
    have n6 : c ≠ w + 6 := fun e => hc (by simp [rowS, e])
    have n8 : c ≠ w + 8 := fun e => hc (by simp [rowS, e])
    rw [← hM, up_cell n0, up_cell n8, up_cell n6, up_cell n4, up_cell n3, up_cell n2, up_cell n1]
  clear hM
  have fin : ∀ (at0 : Int) (τ : Mem), 0 ≤ at0 → at0 ≤ R.length → Fr [w + 7] M τ → (∀ i, 0 ≤ i → i < at0 → τ (w + 7) i = σ (w + 7) i) → (∀ i, at0 ≤ i → i < R.length → τ (w + 7) (i + 1) = σ (w + 7) i) → (∀ i, 0 ≤ i → i < at0 → copAt g R (σ (w + 7) i) ≤ cpd g x R) → (∀ i, at0 ≤ i → i < R.length → cpd g x R < copAt g R (σ (w + 7) i)) → (0 ≤ at0 ∧ at0 < 6) ∧ K (up (up τ (w + 7) at0 (τ w 1)) w 1 (w32 (τ w 1 + 1))) := by
    intro at0 τ h0 hn hF e1 e2 e3 e4
    refine ⟨by omega, ?_⟩
    have tw : τ w 1 = R.length := by rw [hF.one (by omega)]; exact mw1
    rw [tw, wid (by omega) (by omega)]
    have same : ∀ c, c ≠ w → c ≠ w + 7 → up (up τ (w + 7) at0 R.length) w 1 (R.length + 1) c = M c := fun c c1 c2 => by rw [up_cell c1, up_cell c2, hF.one c2]
    refine q _ (fun c hc => ?_) ⟨?_, by simp only [List.length_cons]; omega, ?_, ⟨?_, ?_, ?_, ?_, ?_⟩, ?_, ⟨?_, ?_⟩, ?_⟩
    · rw [same c (fun e => hc (by simp [rowS, e])) (fun e => hc (by simp [rowS, e]))]; exact mo c hc
    · rw [up_same]; simp
    · rw [up_nk (by decide), up_nc (by omega), hF.one (by omega)]; exact mw2
    · rw [same _ (by omega) (by omega), m1, up_same]
    · rw [same _ (by omega) (by omega), m2, up_same]
    · rw [same _ (by omega) (by omega), m3, if_pos rfl]
    · rw [same _ (by omega) (by omega), m4, if_pos rfl]
    · refine h4.congr (fun i i0 i1 => ⟨?_, ?_, ?_, ?_⟩)
      · rw [same _ (by omega) (by omega), m1, up_nk (by omega)]
      · rw [same _ (by omega) (by omega), m2, up_nk (by omega)]
      · rw [same _ (by omega) (by omega), m3, if_neg (by omega)]
      · rw [same _ (by omega) (by omega), m4, if_neg (by omega)]
    · intro h g0 g1
      rw [same _ (by omega) (by omega), m8]
      show _ = if x.2 = h then _ else _
      by_cases e : h = x.2
      · rw [if_pos e, if_pos e.symm]; rfl
      · rw [if_neg e, if_neg (fun z => e z.symm)]; exact h5 h g0 g1
    · rw [same _ (by omega) (by omega), m6, if_pos rfl]
    · refine h6.congr (fun i i0 i1 => ?_)
      rw [same _ (by omega) (by omega), m6, if_neg (by omega)]
    · have eo : up (up τ (w + 7) at0 R.length) w 1 (R.length + 1) (w + 7) = up τ (w + 7) at0 R.length (w + 7) := up_cell (by omega)
      rw [eo]
      refine ord_add (by omega) h7 ⟨h0, hn⟩ (fun i i0 i1 => ?_) (up_same _ _ _ _) (fun i i0 i1 => ?_) e3 e4 (fun p p0 p1 => ?_) ?_
      · rw [up_nk (by omega)]; exact e1 i i0 i1
      · rw [up_nk (by omega)]; exact e2 i i0 i1
      · show (if p = R.length then _ else _) = _
        rw [if_neg (by omega)]
      · show (if (R.length : Int) = R.length then _ else _) = _
        rw [if_pos rfl]
  have loop : ∀ (m : Nat) (at0 : Int) (τ : Mem) (o1 o2 o3 : Option AV), at0 = m → at0 ≤ R.length → Fr [w + 7] M τ → (∀ i, 0 ≤ i → i < at0 → τ (w + 7) i = σ (w + 7) i) → (∀ i, at0 ≤ i → i < R.length → τ (w + 7) (i + 1) = σ (w + 7) i) → (∀ i, at0 ≤ i → i < R.length → cpd g x R < copAt g R (σ (w + 7) i)) → Z E y_Row_add d 155 [some (vr w), o1, o2, o3, some (vi (cpd g x R)), some (vi at0)] [] τ (qv K) := by
    intro m
    induction m with
    | zero =>
      intro at0 τ o1 o2 o3 hm hn hF e1 e2 e4
      refine b_Row_add_155 (a1 := 0) (a2 := 0) hw ⟨fun _ => fin at0 τ (by omega) hn hF e1 e2 (fun i i0 i1 => absurd i1 (by omega)) e4, fun z => absurd z (by omega)⟩
    | succ m ih =>
      intro at0 τ o1 o2 o3 hm hn hF e1 e2 e4
      have ro := h7.1 (at0 - 1) (by omega) (by omega)
      have eo : τ (w + 7) (at0 - 1) = σ (w + 7) (at0 - 1) := e1 (at0 - 1) (by omega) (by omega)
      have ec : τ (w + 4) (σ (w + 7) (at0 - 1)) = copAt g R (σ (w + 7) (at0 - 1)) := by
        rw [hF.one (by omega), m4, if_neg (by omega)]
        exact (h4.at _ ro.1 ro.2).2.2
      refine b_Row_add_155 (a1 := 0) (a2 := 0) hw ⟨fun z => absurd z (by omega), fun _ => ?_⟩
      rw [wid (x := at0 - 1) (by omega) (by omega), eo, ec]
      refine ⟨by omega, by omega, fun hle => fin at0 τ (by omega) hn hF e1 e2 (fun i i0 i1 => ?_) e4, fun hgt => ⟨by omega, ?_⟩⟩
      · by_cases e : i = at0 - 1
        · subst e; exact hle
        · have := h7.2.1 i (at0 - 1) i0 (by omega) (by omega)
          unfold lexl at this; omega
      · rw [wid (by omega) (by omega), show at0 + -1 = at0 - 1 by omega]
        refine ih (at0 - 1) _ o1 o2 o3 (by omega) (by omega) (hF.up (by simp)) (fun i i0 i1 => ?_) (fun i i0 i1 => ?_) (fun i i0 i1 => ?_)
        · rw [up_nk (by omega)]; exact e1 i i0 (by omega)
        · by_cases e : i = at0 - 1
          · subst e; rw [show at0 - 1 + 1 = at0 by omega, up_same]
          · rw [up_nk (by omega)]; exact e2 i (by omega) i1
        · by_cases e : i = at0 - 1
          · subst e; exact hgt
          · exact e4 i (by omega) i1
  rw [h1]
  exact loop R.length R.length M _ _ _ rfl (by omega) Fr.rf (fun i _ _ => by rw [m7]) (fun i i0 i1 => absurd i1 (by omega)) (fun i i0 i1 => absurd i1 (by omega))
theorem ord_drop {o o2 c c2 : Int → Int} {n q0 : Int} (h : OrdOK o c (n + 1)) (hq : 0 ≤ q0 ∧ q0 ≤ n) (hqn : o q0 = n) (h1 : ∀ i, 0 ≤ i → i < q0 → o2 i = o i) (h2 : ∀ i, q0 ≤ i → i < n → o2 i = o (i + 1)) (hc : ∀ p, 0 ≤ p → p < n → c2 p = c p) : OrdOK o2 c2 n := by
  have val : ∀ i, 0 ≤ i → i < n → ∃ j, 0 ≤ j ∧ j < n + 1 ∧ j ≠ q0 ∧ o2 i = o j ∧ ((i < q0 ∧ j = i) ∨ (q0 ≤ i ∧ j = i + 1)) := by
    intro i i0 i1
    by_cases e : i < q0
    · exact ⟨i, i0, by omega, by omega, h1 i i0 e, Or.inl ⟨e, rfl⟩⟩
    · exact ⟨i + 1, by omega, by omega, by omega, h2 i (by omega) i1, Or.inr ⟨by omega, rfl⟩⟩
  have rg : ∀ j, 0 ≤ j → j < n + 1 → j ≠ q0 → 0 ≤ o j ∧ o j < n := by
    intro j j0 j1 j2
    have := h.1 j j0 j1
    have : o j ≠ n := fun e => j2 (h.inj ⟨j0, j1⟩ ⟨hq.1, by omega⟩ (e.trans hqn.symm))
    omega
  refine ⟨fun i i0 i1 => ?_, fun i j i0 ij jn => ?_, fun p p0 pn => ?_⟩
  · obtain ⟨j, j0, j1, j2, e, -⟩ := val i i0 i1
    rw [e]; exact rg j j0 j1 j2
  · obtain ⟨a, a0, a1, a2, ea, ca⟩ := val i i0 (by omega)
    obtain ⟨b, b0, b1, b2, eb, cb⟩ := val j (by omega) jn
    have ra := rg a a0 a1 a2
    have rb := rg b b0 b1 b2
    have := h.2.1 a b a0 (by omega) b1
    unfold lexl at *; rw [ea, eb, hc _ ra.1 ra.2, hc _ rb.1 rb.2]; exact this
  · obtain ⟨j, j0, j1, j2⟩ := h.2.2 p p0 (by omega)
    have : j ≠ q0 := fun e => by subst e; omega
    by_cases e : j < q0
    · exact ⟨j, j0, by omega, by rw [h1 j j0 e]; exact j2⟩
    · exact ⟨j - 1, by omega, by omega, by rw [h2 (j - 1) (by omega) (by omega), show j - 1 + 1 = j by omega]; exact j2⟩
theorem s_Row_drop {K : Mem → Prop} {x : Int × Int} (hw : isRow w) (hx2 : 0 ≤ x.2 ∧ x.2 < 3) (hR : RowC σ w g (x :: R)) (ht : ian (tkn (x :: R)) (ixo (ish 1 x.1) (-1)) = tkn R) (q : ∀ τ : Mem, Fr (rowS w) σ τ → RowC τ w g R → K τ) : CV E y_Row_drop d [vr w] σ K := by
  obtain ⟨h1, h2, h3, h4, h5, h6, h7⟩ := hR
  simp only [List.length_cons] at h1 h2 h7
  obtain ⟨r1, r2, r3, r4, r5⟩ := h4
  obtain ⟨f1, f2⟩ := h6
  refine c_Row_drop (b_Row_drop_0 hw ⟨fun z => absurd z (by omega), fun _ => ⟨fun _ => ?_, fun z => absurd z (by omega)⟩⟩)
  rw [h1, wid (by omega) (by omega), show ((R.length + 1 : Nat) : Int) - 1 = R.length by omega, r2, r1, f1, h3, ht]
  refine ⟨by omega, by omega, ?_⟩
  generalize hM : up (up (up σ w 1 R.length) (w + 8) x.2 (fre g R x.2)) w 2 (tkn R) = M
  have mw1 : M w 1 = R.length := by rw [← hM]; simp [up]
  have mw2 : M w 2 = tkn R := by rw [← hM]; simp [up]
  have m8 : ∀ i, M (w + 8) i = if i = x.2 then fre g R x.2 else σ (w + 8) i := by intro i; rw [← hM]; simp [up]
  have mo : ∀ c, c ≠ w → c ≠ w + 8 → M c = σ c := by intro c c1 c2; rw [← hM, up_cell c1, up_cell c2, up_cell c1]
  clear hM
  obtain ⟨q0, q1, q2, q3⟩ := h7.2.2 R.length (by omega) (by omega)
  have loop : ∀ (m : Nat) (i t0 : Int) (τ : Mem), i + m = R.length + 1 → 0 ≤ i → Fr [w + 7] M τ → (i ≤ q0 → t0 = i) → (q0 < i → t0 = i - 1) → (∀ j, 0 ≤ j → j < t0 → j < q0 → τ (w + 7) j = σ (w + 7) j) → (∀ j, q0 ≤ j → j < t0 → τ (w + 7) j = σ (w + 7) (j + 1)) → (∀ j, i ≤ j → τ (w + 7) j = σ (w + 7) j) → Z E y_Row_drop d 77 [some (vr w), some (vi t0), some (vi i)] [] τ (qv K) := by
    intro m
    induction m with
    | zero =>
      intro i t0 τ hm h0 hF e1 e2 e3 e4 e5
      have tw : τ w 1 = R.length := by rw [hF.one (by omega)]; exact mw1
      refine b_Row_drop_77 hw ⟨fun _ => ?_, fun z => absurd z (by omega)⟩
      have ht0 : t0 = R.length := by have := e2 (by omega); omega
      have same : ∀ c, c ≠ w → c ≠ w + 8 → c ≠ w + 7 → τ c = σ c := fun c c1 c2 c3 => by rw [hF.one c3]; exact mo c c1 c2
      refine q τ (fun c hc => same c (fun e => hc (by simp [rowS, e])) (fun e => hc (by simp [rowS, e])) (fun e => hc (by simp [rowS, e]))) ⟨tw, by omega, by rw [hF.one (by omega)]; exact mw2, r5.congr (fun j j0 j1 => ⟨by rw [same _ (by omega) (by omega) (by omega)], by rw [same _ (by omega) (by omega) (by omega)], by rw [same _ (by omega) (by omega) (by omega)], by rw [same _ (by omega) (by omega) (by omega)]⟩), fun h g0 g1 => ?_, f2.congr (fun j j0 j1 => by rw [same _ (by omega) (by omega) (by omega)]), ?_⟩
      · rw [hF.one (by omega), m8]
        by_cases e : h = x.2
        · rw [if_pos e, e]
        · rw [if_neg e, h5 h g0 g1]
          show (if x.2 = h then _ else _) = _
          rw [if_neg (fun z => e z.symm)]
      · refine ord_drop h7 ⟨q1, by omega⟩ q3 (fun j j0 j1 => e3 j j0 (by omega) j1) (fun j j0 j1 => e4 j j0 (by omega)) (fun p p0 p1 => ?_)
        show _ = if p = R.length then _ else _
        rw [if_neg (by omega)]
    | succ m ih =>
      intro i t0 τ hm h0 hF e1 e2 e3 e4 e5
      have tw : τ w 1 = R.length := by rw [hF.one (by omega)]; exact mw1
      have eo : τ (w + 7) i = σ (w + 7) i := e5 i (by omega)
      refine b_Row_drop_77 hw ⟨fun z => absurd z (by omega), fun _ => ⟨by omega, fun hc => ?_, fun hc => ?_⟩⟩
      · rw [eo, tw] at hc
        have : i = q0 := h7.inj ⟨h0, by omega⟩ ⟨q1, q2⟩ (hc.trans q3.symm)
        subst this
        rw [wid (by omega) (by omega)]
        have := e1 (by omega)
        exact ih (i + 1) t0 τ (by omega) (by omega) hF (fun z => absurd z (by omega)) (fun _ => by omega) e3 e4 (fun j j0 => e5 j (by omega))
      · rw [eo, tw] at hc
        have hne : i ≠ q0 := fun e => hc (by rw [e]; exact q3)
        have ht0 : (i < q0 ∧ t0 = i) ∨ (q0 < i ∧ t0 = i - 1) := by
          rcases Int.lt_or_gt_of_ne hne with z | z
          · exact Or.inl ⟨z, e1 (by omega)⟩
          · exact Or.inr ⟨z, e2 z⟩
        refine ⟨by omega, ?_⟩
        rw [wid (by omega) (by omega), wid (by omega) (by omega), eo]
        refine ih (i + 1) (t0 + 1) _ (by omega) (by omega) (hF.up (by simp)) (fun z => by omega) (fun z => by omega) (fun j j0 j1 j2 => ?_) (fun j j0 j1 => ?_) (fun j j0 => ?_)
        · by_cases e : j = t0
          · subst e; rw [up_same]; congr 1; omega
          · rw [up_nk e]; exact e3 j j0 (by omega) j2
        · by_cases e : j = t0
          · subst e; rw [up_same]; congr 1; omega
          · rw [up_nk e]; exact e4 j j0 (by omega)
        · rw [up_nk (by omega)]; exact e5 j (by omega)
  exact loop (R.length + 1) 0 0 M (by omega) (by omega) Fr.rf (fun _ => rfl) (fun z => absurd z (by omega)) (fun j j0 j1 => absurd j1 (by omega)) (fun j j0 j1 => absurd j1 (by omega)) (fun j j0 => by rw [mo _ (by omega) (by omega)])
theorem endT_b {c m o : Int → Int} {n : Int} {M : Int} (hM : 0 ≤ M) (hc : ∀ i, 0 ≤ i → i < n → 0 ≤ c (o i) ∧ c (o i) ≤ M) (hm : ∀ i, 0 ≤ i → i < n → 0 ≤ m (o i) ∧ m (o i) ≤ 999) : ∀ i : Nat, (i : Int) ≤ n → 0 ≤ endT c m o i ∧ endT c m o i ≤ M + 999 * i
  | 0, _ => by simp only [endT]; omega
  | i + 1, h => by
    have ih := endT_b hM hc hm i (by omega)
    have h1 := hc i (by omega) (by omega)
    have h2 := hm i (by omega) (by omega)
    simp only [endT]
    omega
theorem s_Row_end {K : Int → Mem → Prop} (hw : isRow w) (hd : 1 ≤ d) (hG : HG σ g) (hB : RB σ 2) (hin : ∀ x ∈ R, inR σ x ∧ Gb g x) (hRb : Rb g R) (hR : RowC σ w g R) (q : ∀ τ : Mem, Fr [w + 5] σ τ → (∀ i : Nat, (i : Int) < R.length → τ (w + 5) (σ (w + 7) i) = endT (copAt g R) (fun p => g.2.1 (kAt R p)) (σ (w + 7)) (i + 1)) → K (endV g R) τ) : CI E y_Row_end d [vr w] σ K := by
  obtain ⟨h1, h2, h3, h4, h5, h6, h7⟩ := hR
  have hcb := copAt_b hRb
  have hkb : ∀ p : Int, 0 ≤ p → p < R.length → (0 ≤ kAt R p ∧ kAt R p < σ 2 3) ∧ (0 ≤ g.2.1 (kAt R p) ∧ g.2.1 (kAt R p) ≤ 999) := by
    intro p p0 p1
    obtain ⟨x, hx, e, -⟩ := kAt_mem hin p p0 p1
    rw [e]; exact ⟨hx.1.1, hx.2.2.1⟩
  have hE := endT_b (c := copAt g R) (m := fun p => g.2.1 (kAt R p)) (o := σ (w + 7)) (n := R.length) (M := 11988) (by omega) (fun i i0 i1 => by have := hcb (σ (w + 7) i); omega) (fun i i0 i1 => (hkb _ (h7.1 i i0 i1).1 (h7.1 i i0 i1).2).2)
  have B3 := hB.2.2
  refine c_Row_end (b_Row_end_0 hw ?_)
  have loop : ∀ (m i : Nat) (τ : Mem) (o3 : Option AV), i + m = R.length → Fr [w + 5] σ τ → (∀ j : Nat, j < i → τ (w + 5) (σ (w + 7) j) = endT (copAt g R) (fun p => g.2.1 (kAt R p)) (σ (w + 7)) (j + 1)) → Z E y_Row_end d 4 [some (vr w), some (vi (endT (copAt g R) (fun p => g.2.1 (kAt R p)) (σ (w + 7)) i)), some (vi (i : Nat)), o3] [] τ (qi K) := by
    intro m
    induction m with
    | zero =>
      intro i τ o3 hm hF e1
      have tw : τ w 1 = R.length := by rw [hF.one (by omega)]; exact h1
      refine b_Row_end_4 hw hd ⟨fun _ => ?_, fun z => absurd z (by omega)⟩
      have : i = R.length := by omega
      subst this
      rw [endV_eq h7]
      exact q τ hF (fun j hj => e1 j (by omega))
    | succ m ih =>
      intro i τ o3 hm hF e1
      have tw : τ w 1 = R.length := by rw [hF.one (by omega)]; exact h1
      have ro := h7.1 i (by omega) (by omega)
      have t7 : τ (w + 7) = σ (w + 7) := hF.one (by omega)
      have ra := h4.at _ ro.1 ro.2
      have rk := hkb _ ro.1 ro.2
      have hEi := hE i (by omega)
      have hci := hcb (σ (w + 7) i)
      have w9 : (9 : Nat) ≠ w + 5 := by rcases hw with rfl | rfl <;> decide
      refine b_Row_end_4 hw hd ⟨fun z => absurd z (by omega), fun _ => ⟨fun z => absurd z (by omega), fun _ => ⟨by omega, ?_⟩⟩⟩
      rw [t7, hF.one (c' := w + 4) (by omega), ra.2.2]
      refine ⟨by omega, s_Math_max ?_⟩
      rw [hF.one (c' := w + 1) (by omega), ra.1, hF.one w9, (hG.1 _ rk.1.1 rk.1.2).2, wid (by omega) (by omega), wid (by omega) (by omega)]
      refine ⟨by omega, ?_⟩
      refine ih (i + 1) _ _ (by omega) (hF.up (by simp)) (fun j hj => ?_)
      by_cases e : j = i
      · subst e; rw [up_same]; rfl
      · rw [up_nk (fun z => e (by have := h7.inj ⟨by omega, by omega⟩ ⟨by omega, by omega⟩ z; omega))]; exact e1 j (by omega)
  exact loop R.length 0 σ _ (by omega) Fr.rf (fun j hj => absurd hj (by omega))
