/-! words: the class's constants and the reference's row of keys -/
/-- the k-th letter of the string constant i -/
def cSt (i : Nat) (k : Int) : Int := u16 (ian (stB i k) 255)
section
variable {E : EN} {d : Nat} {σ : Mem}
theorem s_Str_length {K : Int → Mem → Prop} {i : Nat} (hi : i < nS) (hd : 1 ≤ d) (q : K (stN i) σ) : CI E y_Str_length d [vr (nC + 2 * i)] σ K := by
  refine c_Str_length (b_Str_length_0 hi hd (c_Str_coder (b_Str_coder_0 hi ⟨fun z => absurd z (by decide), fun _ => ?_⟩)))
  have e : ∀ i : Fin 21, isr (stN i.val) 0 = stN i.val := by decide +kernel
  have := e ⟨i, hi⟩
  simp only at this
  rw [this]; exact q
theorem s_Str_charAt {K : Int → Mem → Prop} {i : Nat} {k : Int} (hi : i < nS) (hd : 3 ≤ d) (hk : 0 ≤ k ∧ k < stN i) (q : K (cSt i k) σ) : CI E y_Str_charAt d [vr (nC + 2 * i), vi k] σ K := by
  have u : 0 ≤ cSt i k ∧ cSt i k < 65536 := by unfold cSt u16; omega
  refine c_Str_charAt (b_Str_charAt_0 hi (by omega) (c_Str_isLatin1 (b_Str_isLatin1_0 hi ⟨fun z => absurd z (by decide), fun _ => ⟨fun z => absurd rfl z, fun _ => ⟨fun z => absurd z (by decide), fun _ => ?_⟩⟩⟩)))
  exact c_SL_charAt (b_SL_charAt_0 hi (by omega) (s_Str_checkIndex (by omega) hk ⟨hk, u, u, q⟩))
end
/-- where key n stands in the reference's row, and how long it is -/
def kOL : List Int := [1, 6, 11, 17, 23, 30, 37, 43, 49, 54, 59, 64, 68, 71, 77, 84, 90, 96, 102, 107]
def kLL : List Int := [4, 4, 5, 5, 6, 6, 5, 5, 4, 4, 4, 3, 2, 5, 6, 5, 5, 5, 4]
def kO (n : Nat) : Int := kOL.getD n 0
def kL (n : Nat) : Int := kLL.getD n 0
/-- the class's constant of key n -/
def kC (n : Nat) : Nat := [0, 1, 10, 2, 3, 11, 12, 13, 14, 15, 16, 17, 18, 4, 5, 6, 7, 8, 9].getD n 0
theorem k_1 : ∀ n : Fin 19, stN (kC n.val) = kL n.val ∧ kC n.val < 21 ∧ (1 ≤ kO n.val ∧ 1 ≤ kL n.val ∧ kL n.val ≤ 6 ∧ kO n.val + kL n.val < 107) ∧ kO (n.val + 1) = kO n.val + kL n.val + 1 ∧ cSt 19 (kO n.val + kL n.val) = 32 := by decide +kernel
theorem k_2 : ∀ (n : Fin 19) (i : Fin 6), (i.val : Int) < kL n.val → cSt (kC n.val) (i.val : Int) = cSt 19 (kO n.val + (i.val : Int)) ∧ 97 ≤ cSt 19 (kO n.val + (i.val : Int)) ∧ cSt 19 (kO n.val + (i.val : Int)) ≤ 122 := by decide +kernel
theorem k_3 : ∀ (n m : Fin 19), n ≠ m → kL n.val ≠ kL m.val ∨ ∃ i : Fin 6, (i.val : Int) < kL n.val ∧ cSt 19 (kO n.val + (i.val : Int)) ≠ cSt 19 (kO m.val + (i.val : Int)) := by decide +kernel
theorem k_n : stN 19 = 107 ∧ kO 19 = 107 ∧ kO 0 = 1 ∧ stN 20 = 7 := by decide +kernel
theorem k2 {n : Nat} (hn : n < 19) {i : Int} (h0 : 0 ≤ i) (h1 : i < kL n) : cSt (kC n) i = cSt 19 (kO n + i) ∧ 97 ≤ cSt 19 (kO n + i) ∧ cSt 19 (kO n + i) ≤ 122 := by
  have b := (k_1 ⟨n, hn⟩).2.2.1
  simp only at b
  have := k_2 ⟨n, hn⟩ ⟨i.toNat, by omega⟩
  simp only [show ((i.toNat : Nat) : Int) = i by omega] at this
  exact this h1
/-- the letters of t from a up to b are key n -/
def kIs (t : Int → Int) (a b : Int) (n : Nat) : Prop := b - a = kL n ∧ ∀ i : Int, 0 ≤ i → i < kL n → t (a + i) = cSt 19 (kO n + i)
theorem kIs.u {t : Int → Int} {a b : Int} {n m : Nat} (hn : n < 19) (hm : m < 19) (h : kIs t a b n) (g : kIs t a b m) : n = m := by
  by_cases e : n = m
  · exact e
  · exfalso
    have := k_3 ⟨n, hn⟩ ⟨m, hm⟩ (fun z => e (congrArg Fin.val z))
    simp only at this
    rcases this with z | ⟨i, i1, i2⟩
    · exact z (by have := h.1; have := g.1; omega)
    · have e1 := h.2 i.val (by omega) i1
      have e2 := g.2 i.val (by omega) (by have := h.1; have := g.1; omega)
      exact i2 (by rw [← e1, ← e2])
/-- the class's bytes and the reference's -/
def Byt (σ : Mem) (t : Int → Int) (n : Int) : Prop := (0 ≤ n ∧ n ≤ 900) ∧ ∀ p : Int, 0 ≤ p → p < n → σ 1 p = w8 (t p) ∧ (0 ≤ t p ∧ t p < 256)
theorem Byt.c {σ : Mem} {t : Int → Int} {n p c : Int} (h : Byt σ t n) (h0 : 0 ≤ p) (h1 : p < n) (hc : 0 ≤ c ∧ c < 128) : (σ 1 p = c ↔ t p = c) ∧ (σ 1 p ≤ c ↔ (t p ≤ c ∨ 128 ≤ t p)) ∧ (c ≤ σ 1 p ↔ (c ≤ t p ∧ t p < 128)) := by
  have := h.2 p h0 h1
  unfold w8 at this
  omega
theorem Byt.fr {σ τ : Mem} {t : Int → Int} {n : Int} (h : Byt σ t n) (e : τ 1 = σ 1) : Byt τ t n := by unfold Byt at h ⊢; rw [e]; exact h
def sml (c : Int) : Prop := 97 ≤ c ∧ c ≤ 122
def dgt (c : Int) : Prop := 48 ≤ c ∧ c ≤ 57
section
variable {E : EN} {d : Nat} {σ : Mem} {t : Int → Int} {n : Int}
theorem s_Rdr_isSmall {K : Int → Mem → Prop} {p : Int} (hB : Byt σ t n) (h0 : 0 ≤ p) (h1 : p < n) (k1 : sml (t p) → K 1 σ) (k0 : ¬ sml (t p) → K 0 σ) : CI E y_Rdr_isSmall d [vi (σ 1 p)] σ K := by
  have a := hB.c h0 h1 (c := 97) (by omega)
  have b := hB.c h0 h1 (c := 122) (by omega)
  unfold sml at *
  exact c_Rdr_isSmall (b_Rdr_isSmall_0 ⟨fun z => k0 (by omega), fun z => ⟨fun y => k0 (by omega), fun y => k1 (by omega)⟩⟩)
theorem s_Rdr_isDigit {K : Int → Mem → Prop} {p : Int} (hB : Byt σ t n) (h0 : 0 ≤ p) (h1 : p < n) (k1 : dgt (t p) → K 1 σ) (k0 : ¬ dgt (t p) → K 0 σ) : CI E y_Rdr_isDigit d [vi (σ 1 p)] σ K := by
  have a := hB.c h0 h1 (c := 48) (by omega)
  have b := hB.c h0 h1 (c := 57) (by omega)
  unfold dgt at *
  exact c_Rdr_isDigit (b_Rdr_isDigit_0 ⟨fun z => k0 (by omega), fun z => ⟨fun y => k0 (by omega), fun y => k1 (by omega)⟩⟩)
theorem s_Rdr_same {K : Int → Mem → Prop} {a b : Int} {m : Nat} (hd : 4 ≤ d) (hm : m < 19) (hB : Byt σ t n) (ha : 0 ≤ a ∧ a ≤ b ∧ b ≤ n) (k1 : kIs t a b m → K 1 σ) (k0 : ¬ kIs t a b m → K 0 σ) : CI E y_Rdr_same d [vr 64, vi a, vi b, vr (nC + 2 * kC m)] σ K := by
  have f := k_1 ⟨m, hm⟩
  simp only at f
  have n900 := hB.1
  have hc : kC m < nS := f.2.1
  refine c_Rdr_same (b_Rdr_same_0 hc (by omega) (s_Str_length hc (by omega) ?_))
  rw [f.1, wid (x := b - a) (by omega) (by omega)]
  refine ⟨fun e => ?_, fun ne => k0 (fun z => ne z.1)⟩
  have loop : ∀ (c : Nat) (i : Int) (o2 : Option AV), 0 ≤ i → i + c = kL m → (∀ j : Int, 0 ≤ j → j < i → t (a + j) = cSt 19 (kO m + j)) → Z E y_Rdr_same d 15 [some (vr 64), some (vi a), o2, some (vr (nC + 2 * kC m)), some (vi i)] [] σ (qi K) := by
    intro c
    induction c with
    | zero =>
      intro i o2 i0 hi hj
      refine b_Rdr_same_15 (a2 := 0) hc (by omega) (s_Str_length hc (by omega) ⟨fun _ => k1 ⟨e, fun j j0 j1 => hj j j0 (by omega)⟩, fun z => absurd z (by rw [f.1]; omega)⟩)
    | succ c ih =>
      intro i o2 i0 hi hj
      have ks := k2 hm i0 (by omega)
      refine b_Rdr_same_15 (a2 := 0) hc (by omega) (s_Str_length hc (by omega) ⟨fun z => absurd z (by rw [f.1]; omega), fun _ => ?_⟩)
      rw [wid (x := a + i) (by omega) (by omega), wid (x := i + 1) (by omega) (by omega)]
      refine ⟨⟨by omega, by omega⟩, s_Str_charAt hc (by omega) ⟨i0, by rw [f.1]; omega⟩ ?_⟩
      rw [ks.1]
      have bc := (hB.c (p := a + i) (by omega) (by omega) (c := cSt 19 (kO m + i)) (by omega)).1
      refine ⟨fun y => ih (i + 1) _ (by omega) (by omega) (fun j j0 j1 => ?_), fun y => k0 (fun z => y (bc.mpr (z.2 i i0 (by omega))))⟩
      by_cases q : j = i
      · rw [q]; exact bc.mp y
      · exact hj j j0 (by omega)
  exact loop (kL m).toNat 0 _ (by omega) (by omega) (fun j j0 j1 => absurd j1 (by omega))
/-- the class's kind of a word -/
def wKd (t : Int → Int) (a b x : Int) : Prop := (∃ m : Nat, m < 19 ∧ kIs t a b m ∧ x = 201 + m) ∨ (x = 200 ∧ ∀ m : Nat, m < 19 → ¬ kIs t a b m)
theorem s_Rdr_word {K : Mem → Prop} {a b j : Int} (hd : 5 ≤ d) (hB : Byt σ t n) (ha : 0 ≤ a ∧ a ≤ b ∧ b ≤ n) (q : ∀ x, wKd t a b x → K (up σ 65 j x)) : CI E y_Rdr_lineWord d [vr 64, vi a, vi b] σ (fun x6 τ6 => (x6 = 200 → CI E y_Rdr_partWord d [vr 64, vi a, vi b] τ6 (fun x7 τ7 => K (up τ7 65 j x7))) ∧ (x6 ≠ 200 → K (up τ6 65 j x6))) := by
  have S := fun (m : Nat) (hm : m < 19) {K : Int → Mem → Prop} (k1 : kIs t a b m → K 1 σ) (k0 : ¬ kIs t a b m → K 0 σ) => s_Rdr_same (E := E) (d := d - 1) (by omega) hm hB ha k1 k0
  have yes : ∀ (m : Nat), m < 19 → kIs t a b m → K (up σ 65 j (201 + m)) := fun m hm h => q _ (Or.inl ⟨m, hm, h, rfl⟩)
  refine c_Rdr_lineWord (b_Rdr_lineWord_0 (by omega) ?_)
  refine S 0 (by decide) (fun h => ⟨fun z => absurd z (by decide), fun _ => ⟨fun z => absurd z (by decide), fun _ => yes 0 (by decide) h⟩⟩) (fun n0 => ⟨fun _ => ?_, fun z => absurd rfl z⟩)
  refine S 1 (by decide) (fun h => ⟨fun z => absurd z (by decide), fun _ => ⟨fun z => absurd z (by decide), fun _ => yes 1 (by decide) h⟩⟩) (fun n1 => ⟨fun _ => ?_, fun z => absurd rfl z⟩)
  refine S 3 (by decide) (fun h => ⟨fun z => absurd z (by decide), fun _ => ⟨fun z => absurd z (by decide), fun _ => yes 3 (by decide) h⟩⟩) (fun n3 => ⟨fun _ => ?_, fun z => absurd rfl z⟩)
  refine S 4 (by decide) (fun h => ⟨fun z => absurd z (by decide), fun _ => ⟨fun z => absurd z (by decide), fun _ => yes 4 (by decide) h⟩⟩) (fun n4 => ⟨fun _ => ?_, fun z => absurd rfl z⟩)
  refine S 13 (by decide) (fun h => ⟨fun z => absurd z (by decide), fun _ => ⟨fun z => absurd z (by decide), fun _ => yes 13 (by decide) h⟩⟩) (fun n13 => ⟨fun _ => ?_, fun z => absurd rfl z⟩)
  refine S 14 (by decide) (fun h => ⟨fun z => absurd z (by decide), fun _ => ⟨fun z => absurd z (by decide), fun _ => yes 14 (by decide) h⟩⟩) (fun n14 => ⟨fun _ => ?_, fun z => absurd rfl z⟩)
  refine S 15 (by decide) (fun h => ⟨fun z => absurd z (by decide), fun _ => ⟨fun z => absurd z (by decide), fun _ => yes 15 (by decide) h⟩⟩) (fun n15 => ⟨fun _ => ?_, fun z => absurd rfl z⟩)
  refine S 16 (by decide) (fun h => ⟨fun z => absurd z (by decide), fun _ => ⟨fun z => absurd z (by decide), fun _ => yes 16 (by decide) h⟩⟩) (fun n16 => ⟨fun _ => ?_, fun z => absurd rfl z⟩)
  refine S 17 (by decide) (fun h => ⟨fun z => absurd z (by decide), fun _ => ⟨fun z => absurd z (by decide), fun _ => yes 17 (by decide) h⟩⟩) (fun n17 => ⟨fun _ => ?_, fun z => absurd rfl z⟩)
  refine S 18 (by decide) (fun h => ⟨fun z => absurd z (by decide), fun _ => ⟨fun z => absurd z (by decide), fun _ => yes 18 (by decide) h⟩⟩) (fun n18 => ⟨fun _ => ?_, fun z => absurd rfl z⟩)
  refine ⟨fun _ => c_Rdr_partWord (b_Rdr_partWord_0 (by omega) ?_), fun z => absurd rfl z⟩
  refine S 2 (by decide) (fun h => ⟨fun z => absurd z (by decide), fun _ => yes 2 (by decide) h⟩) (fun n2 => ⟨fun _ => ?_, fun z => absurd rfl z⟩)
  refine S 5 (by decide) (fun h => ⟨fun z => absurd z (by decide), fun _ => yes 5 (by decide) h⟩) (fun n5 => ⟨fun _ => ?_, fun z => absurd rfl z⟩)
  refine S 6 (by decide) (fun h => ⟨fun z => absurd z (by decide), fun _ => yes 6 (by decide) h⟩) (fun n6 => ⟨fun _ => ?_, fun z => absurd rfl z⟩)
  refine S 7 (by decide) (fun h => ⟨fun z => absurd z (by decide), fun _ => yes 7 (by decide) h⟩) (fun n7 => ⟨fun _ => ?_, fun z => absurd rfl z⟩)
  refine S 8 (by decide) (fun h => ⟨fun z => absurd z (by decide), fun _ => yes 8 (by decide) h⟩) (fun n8 => ⟨fun _ => ?_, fun z => absurd rfl z⟩)
  refine S 9 (by decide) (fun h => ⟨fun z => absurd z (by decide), fun _ => yes 9 (by decide) h⟩) (fun n9 => ⟨fun _ => ?_, fun z => absurd rfl z⟩)
  refine S 10 (by decide) (fun h => ⟨fun z => absurd z (by decide), fun _ => yes 10 (by decide) h⟩) (fun n10 => ⟨fun _ => ?_, fun z => absurd rfl z⟩)
  refine S 11 (by decide) (fun h => ⟨fun z => absurd z (by decide), fun _ => yes 11 (by decide) h⟩) (fun n11 => ⟨fun _ => ?_, fun z => absurd rfl z⟩)
  refine S 12 (by decide) (fun h => ⟨fun z => absurd z (by decide), fun _ => yes 12 (by decide) h⟩) (fun n12 => ⟨fun _ => q _ (Or.inr ⟨rfl, fun m hm => ?_⟩), fun z => absurd rfl z⟩)
  rcases (show m = 0 ∨ m = 1 ∨ m = 2 ∨ m = 3 ∨ m = 4 ∨ m = 5 ∨ m = 6 ∨ m = 7 ∨ m = 8 ∨ m = 9 ∨ m = 10 ∨ m = 11 ∨ m = 12 ∨ m = 13 ∨ m = 14 ∨ m = 15 ∨ m = 16 ∨ m = 17 ∨ m = 18 by omega) with rfl | rfl | rfl | rfl | rfl | rfl | rfl | rfl | rfl | rfl | rfl | rfl | rfl | rfl | rfl | rfl | rfl | rfl | rfl <;> assumption
/-- the reference's kind of a word -/
theorem t_keyOf {K : Int → Mem → Prop} {a b : Int} (hd : 4 ≤ d) (h118 : σ 118 = t) (h6 : σ 115 6 = a) (h7 : σ 115 7 = b) (ha : 0 ≤ a ∧ a ≤ b ∧ b ≤ 900) (q : ∀ x, ((∃ m : Nat, m < 19 ∧ kIs t a b m ∧ x = m) ∨ (x = 22 ∧ ∀ m : Nat, m < 19 → ¬ kIs t a b m)) → K x σ) : CI E y_Mod_keyOf d [vr 115] σ K := by
  have h19 : 19 < nS := by decide
  have kn := k_n
  refine c_Mod_keyOf (b_Mod_keyOf_0 ?_)
  have outer : ∀ (c m : Nat) (o3 : Option AV), m + c = 19 → (∀ j : Nat, j < m → ¬ kIs t a b j) → Z E y_Mod_keyOf d 4 [some (vr 115), some (vi (m : Int)), some (vi (kO m)), o3] [] σ (qi K) := by
    intro c
    induction c with
    | zero =>
      intro m o3 hm hno
      have e : m = 19 := by omega
      subst e
      exact b_Mod_keyOf_4 (by omega) (s_Str_length h19 (by omega) ⟨fun _ => q 22 (Or.inr ⟨rfl, hno⟩), fun z => absurd z (by rw [kn.1, kn.2.1]; omega)⟩)
    | succ c ih =>
      intro m o3 hm hno
      have hm19 : m < 19 := by omega
      have f := k_1 ⟨m, hm19⟩
      simp only at f
      refine b_Mod_keyOf_4 (by omega) (s_Str_length h19 (by omega) ⟨fun z => absurd z (by rw [kn.1]; omega), fun _ => ?_⟩)
      have skip : ∀ (c : Nat) (i : Int) (o3 : Option AV), 0 ≤ i → i + c = kL m → ¬ kIs t a b m → Z E y_Mod_keyOf d 97 [some (vr 115), some (vi (m : Int)), some (vi (kO m + i)), o3] [] σ (qi K) := by
        intro c
        induction c with
        | zero =>
          intro i o3 i0 hi hn
          have ei : i = kL m := by omega
          subst ei
          refine b_Mod_keyOf_97 (by omega) (s_Str_charAt h19 (by omega) ⟨by omega, by rw [kn.1]; omega⟩ ⟨fun _ => ?_, fun z => absurd f.2.2.2.2 z⟩)
          rw [wid (x := (m : Int) + 1) (by omega) (by omega), wid (x := kO m + kL m + 1) (by omega) (by omega), ← f.2.2.2.1, show (m : Int) + 1 = ((m + 1 : Nat) : Int) by omega]
          refine ih (m + 1) o3 (by omega) (fun j hj => ?_)
          by_cases e : j = m
          · rw [e]; exact hn
          · exact hno j (by omega)
        | succ c ihs =>
          intro i o3 i0 hi hn
          have ks := k2 hm19 i0 (by omega)
          refine b_Mod_keyOf_97 (by omega) (s_Str_charAt h19 (by omega) ⟨by omega, by rw [kn.1]; omega⟩ ⟨fun z => absurd z (by omega), fun _ => ?_⟩)
          rw [wid (x := kO m + i + 1) (by omega) (by omega), show kO m + i + 1 = kO m + (i + 1) by omega]
          exact ihs (i + 1) o3 (by omega) (by omega) hn
      have skip0 := fun (o3 : Option AV) (hn : ¬ kIs t a b m) => skip (kL m).toNat 0 o3 (by omega) (by omega) hn
      rw [show kO m + 0 = kO m by omega] at skip0
      have inner : ∀ (c : Nat) (i : Int), 0 ≤ i → i + c = kL m → a + i ≤ b → (∀ j : Int, 0 ≤ j → j < i → t (a + j) = cSt 19 (kO m + j)) → Z E y_Mod_keyOf d 15 [some (vr 115), some (vi (m : Int)), some (vi (kO m)), some (vi i)] [] σ (qi K) := by
        intro c
        induction c with
        | zero =>
          intro i i0 hi hb hj
          have ei : i = kL m := by omega
          subst ei
          refine b_Mod_keyOf_15 (by omega) ?_
          rw [wid (x := kO m + kL m) (by omega) (by omega)]
          refine s_Str_charAt h19 (by omega) ⟨by omega, by rw [kn.1]; omega⟩ ⟨fun _ => b_Mod_keyOf_69 (by omega) ?_, fun z => absurd f.2.2.2.2 z⟩
          rw [wid (x := kO m + kL m) (by omega) (by omega)]
          refine s_Str_charAt h19 (by omega) ⟨by omega, by rw [kn.1]; omega⟩ ⟨fun z => absurd f.2.2.2.2 z, fun _ => ?_⟩
          rw [h6, h7, wid (x := a + kL m) (by omega) (by omega)]
          exact ⟨fun ne => skip0 _ (fun z => ne (by have := z.1; omega)), fun e => q _ (Or.inl ⟨m, hm19, ⟨by omega, hj⟩, rfl⟩)⟩
        | succ c ihi =>
          intro i i0 hi hb hj
          have ks := k2 hm19 i0 (by omega)
          have no : ¬ kIs t a b m → Z E y_Mod_keyOf d 69 [some (vr 115), some (vi (m : Int)), some (vi (kO m)), some (vi i)] [] σ (qi K) := by
            intro hn
            refine b_Mod_keyOf_69 (by omega) ?_
            rw [wid (x := kO m + i) (by omega) (by omega)]
            exact s_Str_charAt h19 (by omega) ⟨by omega, by rw [kn.1]; omega⟩ ⟨fun _ => skip0 _ hn, fun z => absurd z (by omega)⟩
          refine b_Mod_keyOf_15 (by omega) ?_
          rw [wid (x := kO m + i) (by omega) (by omega)]
          refine s_Str_charAt h19 (by omega) ⟨by omega, by rw [kn.1]; omega⟩ ⟨fun z => absurd z (by omega), fun _ => ?_⟩
          rw [h6, h7, wid (x := a + i) (by omega) (by omega), wid (x := i + 1) (by omega) (by omega), h118]
          refine ⟨fun le => no (fun z => by have := z.1; omega), fun lt => ⟨⟨by omega, by omega⟩, s_Str_charAt h19 (by omega) ⟨by omega, by rw [kn.1]; omega⟩ ⟨fun ne => no (fun z => ne (z.2 i i0 (by omega))), fun e => ihi (i + 1) (by omega) (by omega) (by omega) (fun j j0 j1 => ?_)⟩⟩⟩
          by_cases qe : j = i
          · rw [qe]; exact e
          · exact hj j j0 (by omega)
      exact inner (kL m).toNat 0 (by omega) (by omega) (by omega) (fun j j0 j1 => absurd j1 (by omega))
  have o0 := outer 19 0 none (by omega) (fun j hj => absurd hj (by omega))
  rw [kn.2.2.1] at o0
  exact o0
end
