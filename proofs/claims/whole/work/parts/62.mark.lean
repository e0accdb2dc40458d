/-! keys that fit, as bits -/
theorem uN_or (x y : Int) : uN (ior x y) = uN x ||| uN y := by
  unfold ior
  rw [uN_of, ← uN_in x, ← uN_in y]
  exact BitVec.toNat_or ..
theorem uN_sh : ∀ j : Fin 32, uN (ish 1 (j.val : Int)) = 2 ^ j.val := by decide +kernel
theorem bt_tb {a : Int} {k : Nat} (h : k < 32) : bt a k = if (uN a).testBit k then 1 else 0 := by
  rw [bt_u k h, Nat.testBit_eq_decide_div_mod_eq]
  by_cases e : uN a / 2 ^ k % 2 = 1
  · rw [e]; simp
  · rw [show uN a / 2 ^ k % 2 = 0 by omega]; simp
/-- a bit is set -/
theorem bset {a j k : Int} (hj : 0 ≤ j ∧ j < 32) (hk : 0 ≤ k ∧ k < 32) : bt (ior a (ish 1 j)) k = if k = j then 1 else bt a k := by
  have ek : ((k.toNat : Nat) : Int) = k := by omega
  have ej : ((j.toNat : Nat) : Int) = j := by omega
  rw [← ek, bt_tb (by omega), bt_tb (by omega), uN_or, Nat.testBit_or]
  have e := uN_sh ⟨j.toNat, by omega⟩
  simp only [ej] at e
  rw [e, Nat.testBit_two_pow]
  by_cases z : j.toNat = k.toNat
  · rw [if_pos (show ((k.toNat : Nat) : Int) = j by omega)]; simp [z]
  · rw [if_neg (show ¬ ((k.toNat : Nat) : Int) = j by omega)]; simp [z]
theorem ian31 {a : Int} (h : i32 a) : ian a 31 = a % 32 := by
  unfold ian
  have e : (Int32.ofInt a &&& Int32.ofInt 31) = nI ((Int32.ofInt a).toBitVec.toNat % 2 ^ 5) := pk_and (Int32.ofInt a) (m := Int32.ofInt 31) 5 (by decide)
  rw [e, nI_toInt (by omega)]
  have := bv32 h
  omega
def bX (τ : Mem) (x : Int) : Int := bt (τ 98 (x / 32)) (x % 32)
/-- what a name at a place wants -/
def rqF (t nm : Int → Int) (p m : Int) : Int := (t (p + m) - nm m) % 26
theorem rq_iff {t nm : Int → Int} {i p m : Int} (hi : 0 ≤ i ∧ i < 18278) (hn : 0 ≤ nm m ∧ nm m ≤ 25) : (plF t i (p + m) = nm m ↔ shS i ((p + m) % rnF i) = rqF t nm p m) := by
  have sb := shS_b (j := (p + m) % rnF i) hi
  unfold plF rqF
  omega
theorem plcS_ne {t nm : Int → Int} {L n i : Int} (hL : 1 ≤ L) : ∀ (m : Nat) (p : Int), 0 ≤ p → n < p + m + L → (plcS t nm L n i m p ≠ -1 ↔ ∃ q, p ≤ q ∧ q + L ≤ n ∧ NAt t nm L i q)
  | 0, p, p0, h => ⟨fun z => absurd rfl z, fun ⟨q, a, b, _⟩ => by simp at h; omega⟩
  | m + 1, p, p0, h => by
    have ih := plcS_ne hL (t := t) (nm := nm) (n := n) (i := i) m (p + 1) (by omega) (by omega)
    simp only [plcS]
    by_cases z : n < p + L
    · rw [if_pos z]; exact ⟨fun w => absurd rfl w, fun ⟨q, a, b, _⟩ => by omega⟩
    · rw [if_neg z]
      by_cases y : NAt t nm L i p
      · rw [if_pos y]; exact ⟨fun _ => ⟨p, by omega, by omega, y⟩, fun _ => by omega⟩
      · rw [if_neg y, ih]
        refine ⟨fun ⟨q, a, b, c⟩ => ⟨q, by omega, b, c⟩, fun ⟨q, a, b, c⟩ => ⟨q, ?_, b, c⟩⟩
        rcases Int.lt_or_eq_of_le a with w | w
        · omega
        · subst w; exact absurd c y
theorem plcF_ne {t nm : Int → Int} {L n i : Int} (hn : n ≤ 40) : (plcF t nm L n i ≠ -1 ↔ 1 ≤ L ∧ ∃ q, 0 ≤ q ∧ q + L ≤ n ∧ NAt t nm L i q) := by
  unfold plcF
  by_cases z : L < 1
  · rw [if_pos z]; exact ⟨fun w => absurd rfl w, fun ⟨a, _⟩ => by omega⟩
  · rw [if_neg z, plcS_ne (by omega) 41 0 (by omega) (by simp; omega)]
    exact ⟨fun h => ⟨by omega, h⟩, fun h => h.2⟩
/-- the shifts that a name at p wants, of its first m letters -/
def SIv (τ : Mem) (t nm : Int → Int) (r p m : Int) : Prop := (∀ j : Int, 0 ≤ j → j < r → (τ 99 j = -1 ∧ ∀ k : Int, 0 ≤ k → k < m → (p + k) % r ≠ j) ∨ ((0 ≤ τ 99 j ∧ τ 99 j < 26) ∧ (∃ k : Int, 0 ≤ k ∧ k < m ∧ (p + k) % r = j) ∧ ∀ k : Int, 0 ≤ k → k < m → (p + k) % r = j → rqF t nm p k = τ 99 j)) ∧ ∀ j : Int, r ≤ j → j < 3 → τ 99 j = 0
section
variable {E : EN} {d : Nat} {σ : Mem} {t nm : Int → Int} {n L : Int}
theorem s_shiftsFor {K : Int → Mem → Prop} {r p : Int} (hd : 1 ≤ d) (hr : 1 ≤ r ∧ r ≤ 3) (h5 : σ 96 5 = r) (hT : CTx σ t n) (hN : CNm σ nm L) (hp : 0 ≤ p ∧ p + L ≤ n) (k1 : ∀ τ, Fr [99] σ τ → SIv τ t nm r p L → K 1 τ) (k0 : ∀ τ, Fr [99] σ τ → (∃ a b : Int, (0 ≤ a ∧ a < L) ∧ (0 ≤ b ∧ b < L) ∧ (p + a) % r = (p + b) % r ∧ rqF t nm p a ≠ rqF t nm p b) → K 0 τ) : CI E y_Ciph_shiftsFor d [vr 96, vi p] σ K := by
  obtain ⟨T1, T2, T3⟩ := hT
  obtain ⟨N1, N2, N3⟩ := hN
  have l2 : ∀ (m : Nat) (j : Int) (τ : Mem) (o3 o4 : Option AV), 0 ≤ j → j + m = L → Fr [99] σ τ → SIv τ t nm r p j → Z E y_Ciph_shiftsFor d 34 [some (vr 96), some (vi p), some (vi j), o3, o4] [] τ (qi K) := by
    intro m
    induction m with
    | zero =>
      intro j τ o3 o4 j0 hj hF hS
      have e2 : τ 2 = σ 2 := hF.one (by decide)
      have ej : j = L := by omega
      rw [ej] at hS ⊢
      exact b_Ciph_shiftsFor_34 hd ⟨fun _ => k1 τ hF hS, fun z => absurd z (by rw [e2]; omega)⟩
    | succ m ih =>
      intro j τ o3 o4 j0 hj hF hS
      have e2 : τ 2 = σ 2 := hF.one (by decide)
      have e7 : τ 7 = σ 7 := hF.one (by decide)
      have e97 : τ 97 = σ 97 := hF.one (by decide)
      have e96 : τ 96 = σ 96 := hF.one (by decide)
      have tp := T3 (p + j) (by omega) (by omega)
      have np := N3 j j0 (by omega)
      have tm := tm3 (p := p + j) (r := r) (by omega) hr
      refine b_Ciph_shiftsFor_34 hd ⟨fun z => absurd z (by rw [e2]; omega), fun _ => ⟨fun z => absurd z (by omega), fun _ => ?_⟩⟩
      rw [wid (x := p + j) (by omega) (by omega), e97, e7, tp.1, np.1, wid (x := t (p + j) - nm j) (by omega) (by omega), wid (x := j + 1) (by omega) (by omega)]
      refine ⟨by omega, by omega, s_floorMod (by omega) (s_turnAt (by rw [e96]; exact h5) hr (by omega) ⟨by omega, ?_⟩)⟩
      have er : (t (p + j) - nm j) % 26 = rqF t nm p j := rfl
      rw [er]
      have rb : 0 ≤ rqF t nm p j ∧ rqF t nm p j < 26 := by unfold rqF; omega
      have go : τ 99 ((p + j) % r) = -1 ∨ τ 99 ((p + j) % r) = rqF t nm p j → ∀ o3 o4, Z E y_Ciph_shiftsFor d 34 [some (vr 96), some (vi p), some (vi (j + 1)), o3, o4] [] (up τ 99 ((p + j) % r) (rqF t nm p j)) (qi K) := by
        intro hc o3 o4
        refine ih (j + 1) _ _ _ (by omega) (by omega) (hF.up (by simp)) ⟨fun i i0 i1 => ?_, fun i i0 i1 => ?_⟩
        · by_cases e : i = (p + j) % r
          · right
            rw [e, up_same]
            refine ⟨rb, ⟨j, j0, by omega, rfl⟩, fun k k0 k1 hk => ?_⟩
            by_cases w : k = j
            · rw [w]
            · rcases hS.1 i i0 i1 with ⟨a, b⟩ | ⟨a, b, c⟩
              · exact absurd (by rw [hk, e]) (b k k0 (by omega))
              · have := c k k0 (by omega) (by rw [hk, e])
                rw [this]
                rw [e] at a ⊢
                rcases hc with q | q
                · omega
                · exact q
          · rw [up_nk e]
            rcases hS.1 i i0 i1 with ⟨a, b⟩ | ⟨a, ⟨k, b1, b2, b3⟩, c⟩
            · refine Or.inl ⟨a, fun k k0 k1 => ?_⟩
              by_cases w : k = j
              · rw [w]; exact fun z => e z.symm
              · exact b k k0 (by omega)
            · refine Or.inr ⟨a, ⟨k, b1, by omega, b3⟩, fun k k0 k1 hk => ?_⟩
              by_cases w : k = j
              · rw [w] at hk; exact absurd hk.symm e
              · exact c k k0 (by omega) hk
        · rw [up_nk (by omega)]; exact hS.2 i i0 i1
      refine ⟨fun z => go (Or.inl z) _ _, fun z => ⟨fun y => go (Or.inr y) _ _, fun y => k0 τ hF ?_⟩⟩
      rcases hS.1 ((p + j) % r) tm.2.1 tm.2.2 with ⟨a, b⟩ | ⟨a, ⟨k, b1, b2, b3⟩, c⟩
      · exact absurd a z
      · refine ⟨k, j, by omega, by omega, b3, ?_⟩
        rw [c k b1 b2 b3]; exact y
  have l1 : ∀ (m : Nat) (j : Int) (τ : Mem) (o3 o4 : Option AV), 0 ≤ j → j + m = 3 → Fr [99] σ τ → (∀ i : Int, 0 ≤ i → i < j → τ 99 i = if i < r then -1 else 0) → Z E y_Ciph_shiftsFor d 2 [some (vr 96), some (vi p), some (vi j), o3, o4] [] τ (qi K) := by
    intro m
    induction m with
    | zero =>
      intro j τ o3 o4 j0 hj hF hS
      refine b_Ciph_shiftsFor_2 ⟨fun _ => l2 L.toNat 0 τ _ _ (by omega) (by omega) hF ⟨fun i i0 i1 => Or.inl ⟨?_, fun k k0 k1 => absurd k1 (by omega)⟩, fun i i0 i1 => ?_⟩, fun z => absurd z (by omega)⟩
      · rw [hS i i0 (by omega), if_pos i1]
      · rw [hS i (by omega) (by omega), if_neg (by omega)]
    | succ m ih =>
      intro j τ o3 o4 j0 hj hF hS
      refine b_Ciph_shiftsFor_2 ⟨fun z => absurd z (by omega), fun _ => ?_⟩
      rw [hF.one (c' := 96) (by decide), h5, wid (x := j + 1) (by omega) (by omega)]
      refine ⟨fun z => ⟨by omega, ih (j + 1) _ _ _ (by omega) (by omega) (hF.up (by simp)) (fun i i0 i1 => ?_)⟩, fun z => ⟨by omega, ih (j + 1) _ _ _ (by omega) (by omega) (hF.up (by simp)) (fun i i0 i1 => ?_)⟩⟩
      · by_cases e : i = j
        · subst e; rw [up_same, if_neg (by omega)]
        · rw [up_nk e]; exact hS i i0 (by omega)
      · by_cases e : i = j
        · subst e; rw [up_same, if_pos (by omega)]
        · rw [up_nk e]; exact hS i i0 (by omega)
  exact c_Ciph_shiftsFor (b_Ciph_shiftsFor_0 (l1 3 0 σ _ _ (by omega) (by omega) Fr.rf (fun i i0 i1 => absurd i1 (by omega))))
/-- keys of a round with the shifts that are wanted -/
def hasS (τ : Mem) (r x : Int) : Prop := (0 ≤ x ∧ x < 18278) ∧ rnF x = r ∧ ∀ j : Int, 0 ≤ j → j < r → τ 99 j = -1 ∨ shS x j = τ 99 j
theorem s_least {K : Int → Mem → Prop} {j : Int} (hj : 0 ≤ j ∧ j < 3) (q : K (if σ 99 j = -1 then 0 else σ 99 j) σ) : CI E y_Ciph_least d [vr 96, vi j] σ K :=
  c_Ciph_least (b_Ciph_least_0 ⟨hj, fun z => by rw [if_neg z] at q; exact q, fun z => by rw [if_pos z] at q; exact q⟩)
theorem s_most {K : Int → Mem → Prop} {j : Int} (hj : 0 ≤ j ∧ j < 3) (q : K (if σ 99 j = -1 then 25 else σ 99 j) σ) : CI E y_Ciph_most d [vr 96, vi j] σ K :=
  c_Ciph_most (b_Ciph_most_0 ⟨hj, fun z => by rw [if_neg z] at q; exact q, fun z => by rw [if_pos z] at q; exact q⟩)
def ixF (r s t u : Int) : Int := if r = 1 then s else if r = 2 then 26 + 26 * s + t else 702 + 676 * s + 26 * t + u
def lo (τ : Mem) (j : Int) : Int := if τ 99 j = -1 then 0 else τ 99 j
def hg (τ : Mem) (j : Int) : Int := if τ 99 j = -1 then 25 else τ 99 j
theorem s_markKeys {K : Mem → Prop} {r : Int} (hd : 1 ≤ d) (hr : 1 ≤ r ∧ r ≤ 3) (h5 : σ 96 5 = r) (hS : ∀ j : Int, 0 ≤ j → j < 3 → -1 ≤ σ 99 j ∧ σ 99 j < 26) (hz : ∀ j : Int, r ≤ j → j < 3 → σ 99 j = 0) (q : ∀ τ, Fr [98] σ τ → (∀ x : Int, 0 ≤ x → x < 18304 → (bX τ x = 1 ↔ bX σ x = 1 ∨ hasS σ r x)) → K τ) : CV E y_Ciph_markKeys d [vr 96] σ K := by
  have s0 := hS 0 (by decide) (by decide)
  have s1 := hS 1 (by decide) (by decide)
  have s2 := hS 2 (by decide) (by decide)
  have b0 : (0 ≤ lo σ 0 ∧ lo σ 0 ≤ hg σ 0) ∧ hg σ 0 ≤ 25 := by unfold lo hg; (repeat' split) <;> omega
  have b1 : (0 ≤ lo σ 1 ∧ lo σ 1 ≤ hg σ 1) ∧ hg σ 1 ≤ 25 := by unfold lo hg; (repeat' split) <;> omega
  have b2 : (0 ≤ lo σ 2 ∧ lo σ 2 ≤ hg σ 2) ∧ hg σ 2 ≤ 25 := by unfold lo hg; (repeat' split) <;> omega
  have z1 : r = 1 → lo σ 1 = 0 ∧ hg σ 1 = 0 := fun e => by have := hz 1 (by omega) (by decide); unfold lo hg; rw [this]; exact ⟨rfl, rfl⟩
  have z2 : r ≤ 2 → lo σ 2 = 0 ∧ hg σ 2 = 0 := fun e => by have := hz 2 (by omega) (by decide); unfold lo hg; rw [this]; exact ⟨rfl, rfl⟩
  have fin : ∀ x : Int, 0 ≤ x → x < 18304 → ((∃ s t u : Int, (lo σ 0 ≤ s ∧ s ≤ hg σ 0) ∧ (lo σ 1 ≤ t ∧ t ≤ hg σ 1) ∧ (lo σ 2 ≤ u ∧ u ≤ hg σ 2) ∧ x = ixF r s t u) ↔ hasS σ r x) := by
    intro x x0 x1
    have lh : ∀ (j v : Int), 0 ≤ v → v < 26 → ((lo σ j ≤ v ∧ v ≤ hg σ j) ↔ (σ 99 j = -1 ∨ v = σ 99 j)) := by
      intro j v v0 v1
      unfold lo hg
      by_cases e : σ 99 j = -1
      · rw [if_pos e, if_pos e]; omega
      · rw [if_neg e, if_neg e]; omega
    rcases (show r = 1 ∨ r = 2 ∨ r = 3 by omega) with e | e | e
    · have y1 := z1 e
      have y2 := z2 (by omega)
      subst e
      constructor
      · rintro ⟨s, t, u, h0, h1, h2, h3⟩
        have h3 : x = s := h3
        refine ⟨by omega, by unfold rnF; rw [if_pos (by omega)], fun j j0 j1 => ?_⟩
        rw [show j = 0 by omega]
        have := (lh 0 s (by omega) (by omega)).mp h0
        unfold shS; rw [if_pos (by omega), h3]; exact this
      · rintro ⟨h0, h1, h2⟩
        have hx : x < 26 := by unfold rnF at h1; (repeat' split at h1) <;> omega
        have h2 := h2 0 (by decide) (by decide)
        unfold shS at h2; rw [if_pos hx] at h2
        exact ⟨x, 0, 0, (lh 0 x (by omega) hx).mpr h2, by omega, by omega, rfl⟩
    · have y2 := z2 (by omega)
      subst e
      constructor
      · rintro ⟨s, t, u, h0, h1, h2, h3⟩
        have h3 : x = 26 + 26 * s + t := h3
        have g0 := (lh 0 s (by omega) (by omega)).mp h0
        have g1 := (lh 1 t (by omega) (by omega)).mp h1
        refine ⟨by omega, by unfold rnF; rw [if_neg (by omega), if_pos (by omega)], fun j j0 j1 => ?_⟩
        unfold shS
        rw [if_neg (by omega), if_pos (by omega)]
        rcases (show j = 0 ∨ j = 1 by omega) with rfl | rfl
        · rw [if_pos rfl, show (x - 26) / 26 = s by omega]; exact g0
        · rw [if_neg (by decide), show (x - 26) % 26 = t by omega]; exact g1
      · rintro ⟨h0, h1, h2⟩
        have hx : 26 ≤ x ∧ x < 702 := by unfold rnF at h1; (repeat' split at h1) <;> omega
        have g0 := h2 0 (by decide) (by decide)
        have g1 := h2 1 (by decide) (by decide)
        unfold shS at g0 g1
        rw [if_neg (by omega), if_pos (by omega)] at g0 g1
        rw [if_pos rfl] at g0
        rw [if_neg (by decide)] at g1
        exact ⟨(x - 26) / 26, (x - 26) % 26, 0, (lh 0 _ (by omega) (by omega)).mpr g0, (lh 1 _ (by omega) (by omega)).mpr g1, by omega, by show x = 26 + 26 * ((x - 26) / 26) + (x - 26) % 26; omega⟩
    · subst e
      constructor
      · rintro ⟨s, t, u, h0, h1, h2, h3⟩
        have h3 : x = 702 + 676 * s + 26 * t + u := h3
        have g0 := (lh 0 s (by omega) (by omega)).mp h0
        have g1 := (lh 1 t (by omega) (by omega)).mp h1
        have g2 := (lh 2 u (by omega) (by omega)).mp h2
        refine ⟨by omega, by unfold rnF; rw [if_neg (by omega), if_neg (by omega)], fun j j0 j1 => ?_⟩
        unfold shS
        rw [if_neg (by omega), if_neg (by omega)]
        rcases (show j = 0 ∨ j = 1 ∨ j = 2 by omega) with rfl | rfl | rfl
        · rw [if_pos rfl, show (x - 702) / 676 = s by omega]; exact g0
        · rw [if_neg (by decide), if_pos rfl, show (x - 702) / 26 % 26 = t by omega]; exact g1
        · rw [if_neg (by decide), if_neg (by decide), show (x - 702) % 26 = u by omega]; exact g2
      · rintro ⟨h0, h1, h2⟩
        have hx : 702 ≤ x := by unfold rnF at h1; (repeat' split at h1) <;> omega
        have g0 := h2 0 (by decide) (by decide)
        have g1 := h2 1 (by decide) (by decide)
        have g2 := h2 2 (by decide) (by decide)
        unfold shS at g0 g1 g2
        rw [if_neg (by omega), if_neg (by omega)] at g0 g1 g2
        rw [if_pos rfl] at g0
        rw [if_neg (by decide), if_pos rfl] at g1
        rw [if_neg (by decide), if_neg (by decide)] at g2
        exact ⟨(x - 702) / 676, (x - 702) / 26 % 26, (x - 702) % 26, (lh 0 _ (by omega) (by omega)).mpr g0, (lh 1 _ (by omega) (by omega)).mpr g1, (lh 2 _ (by omega) (by omega)).mpr g2, by show x = 702 + 676 * ((x - 702) / 676) + 26 * ((x - 702) / 26 % 26) + (x - 702) % 26; omega⟩
  have ixb : ∀ s t u : Int, (lo σ 0 ≤ s ∧ s ≤ hg σ 0) → (lo σ 1 ≤ t ∧ t ≤ hg σ 1) → (lo σ 2 ≤ u ∧ u ≤ hg σ 2) → 0 ≤ ixF r s t u ∧ ixF r s t u < 18278 := by
    intro s t u h0 h1 h2; unfold ixF; (repeat' split) <;> omega
  -- marked so far: all ahead of (s, t, u)
  have l3 : ∀ (m : Nat) (s t u : Int) (o4 : Option AV) (τ : Mem) (B : Int → Prop), (lo σ 0 ≤ s ∧ s ≤ hg σ 0) → (lo σ 1 ≤ t ∧ t ≤ hg σ 1) → lo σ 2 ≤ u → u + m = hg σ 2 + 1 → Fr [98] σ τ → (∀ x : Int, 0 ≤ x → x < 18304 → (bX τ x = 1 ↔ B x ∨ ∃ v, lo σ 2 ≤ v ∧ v < u ∧ x = ixF r s t v)) → (∀ (τ : Mem) (o3 o4 : Option AV), Fr [98] σ τ → (∀ x : Int, 0 ≤ x → x < 18304 → (bX τ x = 1 ↔ B x ∨ ∃ v, lo σ 2 ≤ v ∧ v ≤ hg σ 2 ∧ x = ixF r s t v)) → Z E y_Ciph_markKeys d 21 [some (vr 96), some (vi s), some (vi (t + 1)), o3, o4] [] τ (qv K)) → Z E y_Ciph_markKeys d 36 [some (vr 96), some (vi s), some (vi t), some (vi u), o4] [] τ (qv K) := by
    intro m
    induction m with
    | zero =>
      intro s t u o4 τ B hs ht hu hm hF hB nx
      have e99 : τ 99 = σ 99 := hF.one (by decide)
      refine b_Ciph_markKeys_36 (by omega) (s_most (by decide) ?_)
      rw [e99, wid (x := t + 1) (by omega) (by omega)]
      refine ⟨fun _ => nx τ _ _ hF (fun x x0 x1 => ?_), fun z => absurd z (by show ¬ u ≤ hg σ 2; omega)⟩
      rw [hB x x0 x1]
      exact or_congr Iff.rfl ⟨fun ⟨v, a, b, c⟩ => ⟨v, a, by omega, c⟩, fun ⟨v, a, b, c⟩ => ⟨v, a, by omega, c⟩⟩
    | succ m ih =>
      intro s t u o4 τ B hs ht hu hm hF hB nx
      have e99 : τ 99 = σ 99 := hF.one (by decide)
      have e96 : τ 96 = σ 96 := hF.one (by decide)
      have ib := ixb s t u hs ht ⟨hu, by omega⟩
      have go : ∀ o4, Z E y_Ciph_markKeys d 93 [some (vr 96), some (vi s), some (vi t), some (vi u), o4] [vi (ixF r s t u)] τ (qv K) := by
        intro o4
        refine b_Ciph_markKeys_93 ?_
        rw [isr_eq (by unfold i32; omega) (by omega), ian31 (by unfold i32; omega), show (5 : Int).toNat = 5 by decide, show (2 : Int) ^ 5 = 32 by decide, wid (x := u + 1) (by omega) (by omega)]
        refine ⟨by omega, ih s t (u + 1) _ _ B hs ht (by omega) (by omega) (hF.up (by simp)) (fun x x0 x1 => ?_) nx⟩
        unfold bX
        have key : (up τ 98 (ixF r s t u / 32) (ior (τ 98 (ixF r s t u / 32)) (ish 1 (ixF r s t u % 32))) 98 (x / 32)) = if x / 32 = ixF r s t u / 32 then ior (τ 98 (x / 32)) (ish 1 (ixF r s t u % 32)) else τ 98 (x / 32) := by
          by_cases w : x / 32 = ixF r s t u / 32
          · rw [w, up_same, if_pos rfl]
          · rw [up_nk w, if_neg w]
        rw [key]
        have old := hB x x0 x1
        unfold bX at old
        by_cases w : x = ixF r s t u
        · rw [if_pos (by rw [w]), bset (by omega) (by omega), if_pos (by rw [w])]
          exact ⟨fun _ => Or.inr ⟨u, hu, by omega, w⟩, fun _ => rfl⟩
        · have same : bt (if x / 32 = ixF r s t u / 32 then ior (τ 98 (x / 32)) (ish 1 (ixF r s t u % 32)) else τ 98 (x / 32)) (x % 32) = bt (τ 98 (x / 32)) (x % 32) := by
            by_cases y : x / 32 = ixF r s t u / 32
            · rw [if_pos y, bset (by omega) (by omega), if_neg (by omega)]
            · rw [if_neg y]
          rw [same, old]
          refine or_congr Iff.rfl ⟨fun ⟨v, a, b, c⟩ => ⟨v, a, by omega, c⟩, fun ⟨v, a, b, c⟩ => ⟨v, a, ?_, c⟩⟩
          by_cases y : v = u
          · rw [y] at c; exact absurd c w
          · omega
      unfold ixF at go
      refine b_Ciph_markKeys_36 (by omega) (s_most (by decide) ?_)
      rw [e99, e96, h5]
      refine ⟨fun z => absurd z (by show ¬ hg σ 2 < u; omega), fun _ => ⟨fun n1 => ⟨fun n2 => ?_, fun n2 => ?_⟩, fun n1 => ?_⟩⟩
      · rw [if_neg n1, if_neg n2] at go
        rw [wid (x := 676 * s) (by omega) (by omega), wid (x := 702 + 676 * s) (by omega) (by omega), wid (x := 26 * t) (by omega) (by omega), wid (x := 702 + 676 * s + 26 * t) (by omega) (by omega), wid (x := 702 + 676 * s + 26 * t + u) (by omega) (by omega)]
        exact go _
      · rw [if_neg n1, if_pos n2] at go
        rw [wid (x := 26 * s) (by omega) (by omega), wid (x := 26 + 26 * s) (by omega) (by omega), wid (x := 26 + 26 * s + t) (by omega) (by omega)]
        exact go _
      · rw [if_pos n1] at go; exact go _
  have l2 : ∀ (m : Nat) (s t : Int) (o3 o4 : Option AV) (τ : Mem) (B : Int → Prop), (lo σ 0 ≤ s ∧ s ≤ hg σ 0) → lo σ 1 ≤ t → t + m = hg σ 1 + 1 → Fr [98] σ τ → (∀ x : Int, 0 ≤ x → x < 18304 → (bX τ x = 1 ↔ B x ∨ ∃ w v, (lo σ 1 ≤ w ∧ w < t) ∧ (lo σ 2 ≤ v ∧ v ≤ hg σ 2) ∧ x = ixF r s w v)) → (∀ (τ : Mem) (o2 o3 o4 : Option AV), Fr [98] σ τ → (∀ x : Int, 0 ≤ x → x < 18304 → (bX τ x = 1 ↔ B x ∨ ∃ w v, (lo σ 1 ≤ w ∧ w ≤ hg σ 1) ∧ (lo σ 2 ≤ v ∧ v ≤ hg σ 2) ∧ x = ixF r s w v)) → Z E y_Ciph_markKeys d 6 [some (vr 96), some (vi (s + 1)), o2, o3, o4] [] τ (qv K)) → Z E y_Ciph_markKeys d 21 [some (vr 96), some (vi s), some (vi t), o3, o4] [] τ (qv K) := by
    intro m
    induction m with
    | zero =>
      intro s t o3 o4 τ B hs ht hm hF hB nx
      have e99 : τ 99 = σ 99 := hF.one (by decide)
      refine b_Ciph_markKeys_21 (by omega) (s_most (by decide) ?_)
      rw [e99, wid (x := s + 1) (by omega) (by omega)]
      refine ⟨fun _ => nx τ _ _ _ hF (fun x x0 x1 => ?_), fun z => absurd z (by show ¬ t ≤ hg σ 1; omega)⟩
      rw [hB x x0 x1]
      exact or_congr Iff.rfl ⟨fun ⟨w, v, a, b, c⟩ => ⟨w, v, by omega, b, c⟩, fun ⟨w, v, a, b, c⟩ => ⟨w, v, by omega, b, c⟩⟩
    | succ m ih =>
      intro s t o3 o4 τ B hs ht hm hF hB nx
      have e99 : τ 99 = σ 99 := hF.one (by decide)
      refine b_Ciph_markKeys_21 (by omega) (s_most (by decide) ?_)
      rw [e99]
      refine ⟨fun z => absurd z (by show ¬ hg σ 1 < t; omega), fun _ => s_least (by decide) ?_⟩
      rw [e99]
      refine l3 (hg σ 2 + 1 - lo σ 2).toNat s t (lo σ 2) _ τ (fun x => B x ∨ ∃ w v, (lo σ 1 ≤ w ∧ w < t) ∧ (lo σ 2 ≤ v ∧ v ≤ hg σ 2) ∧ x = ixF r s w v) hs ⟨ht, by omega⟩ (Int.le_refl _) (by omega) hF (fun x x0 x1 => ?_) (fun τ2 o3 o4 hF2 hB2 => ih s (t + 1) _ _ τ2 B hs (by omega) (by omega) hF2 (fun x x0 x1 => ?_) nx)
      · rw [hB x x0 x1]; exact ⟨fun z => Or.inl z, fun z => z.elim id (fun ⟨v, a, b, _⟩ => by omega)⟩
      · rw [hB2 x x0 x1]
        constructor
        · rintro ((z | ⟨w, v, a, b, c⟩) | ⟨v, a, b, c⟩)
          · exact Or.inl z
          · exact Or.inr ⟨w, v, by omega, b, c⟩
          · exact Or.inr ⟨t, v, by omega, ⟨a, b⟩, c⟩
        · rintro (z | ⟨w, v, a, b, c⟩)
          · exact Or.inl (Or.inl z)
          · by_cases y : w = t
            · rw [y] at c; exact Or.inr ⟨v, b.1, b.2, c⟩
            · exact Or.inl (Or.inr ⟨w, v, by omega, b, c⟩)
  have l1 : ∀ (m : Nat) (s : Int) (o2 o3 o4 : Option AV) (τ : Mem), lo σ 0 ≤ s → s + m = hg σ 0 + 1 → Fr [98] σ τ → (∀ x : Int, 0 ≤ x → x < 18304 → (bX τ x = 1 ↔ bX σ x = 1 ∨ ∃ y w v, (lo σ 0 ≤ y ∧ y < s) ∧ (lo σ 1 ≤ w ∧ w ≤ hg σ 1) ∧ (lo σ 2 ≤ v ∧ v ≤ hg σ 2) ∧ x = ixF r y w v)) → Z E y_Ciph_markKeys d 6 [some (vr 96), some (vi s), o2, o3, o4] [] τ (qv K) := by
    intro m
    induction m with
    | zero =>
      intro s o2 o3 o4 τ hs hm hF hB
      have e99 : τ 99 = σ 99 := hF.one (by decide)
      refine b_Ciph_markKeys_6 (by omega) (s_most (by decide) ?_)
      rw [e99]
      refine ⟨fun _ => q τ hF (fun x x0 x1 => ?_), fun z => absurd z (by show ¬ s ≤ hg σ 0; omega)⟩
      rw [hB x x0 x1, ← fin x x0 x1]
      exact or_congr Iff.rfl ⟨fun ⟨y, w, v, a, b, c, e⟩ => ⟨y, w, v, by omega, b, c, e⟩, fun ⟨y, w, v, a, b, c, e⟩ => ⟨y, w, v, by omega, b, c, e⟩⟩
    | succ m ih =>
      intro s o2 o3 o4 τ hs hm hF hB
      have e99 : τ 99 = σ 99 := hF.one (by decide)
      refine b_Ciph_markKeys_6 (by omega) (s_most (by decide) ?_)
      rw [e99]
      refine ⟨fun z => absurd z (by show ¬ hg σ 0 < s; omega), fun _ => s_least (by decide) ?_⟩
      rw [e99]
      refine l2 (hg σ 1 + 1 - lo σ 1).toNat s (lo σ 1) _ _ τ (fun x => bX σ x = 1 ∨ ∃ y w v, (lo σ 0 ≤ y ∧ y < s) ∧ (lo σ 1 ≤ w ∧ w ≤ hg σ 1) ∧ (lo σ 2 ≤ v ∧ v ≤ hg σ 2) ∧ x = ixF r y w v) ⟨hs, by omega⟩ (Int.le_refl _) (by omega) hF (fun x x0 x1 => ?_) (fun τ2 o2 o3 o4 hF2 hB2 => ih (s + 1) _ _ _ τ2 (by omega) (by omega) hF2 (fun x x0 x1 => ?_))
      · rw [hB x x0 x1]; exact ⟨fun z => Or.inl z, fun z => z.elim id (fun ⟨w, v, a, _⟩ => by omega)⟩
      · rw [hB2 x x0 x1]
        constructor
        · rintro ((z | ⟨y, w, v, a, b, c, e⟩) | ⟨w, v, a, b, c⟩)
          · exact Or.inl z
          · exact Or.inr ⟨y, w, v, by omega, b, c, e⟩
          · exact Or.inr ⟨s, w, v, by omega, a, b, c⟩
        · rintro (z | ⟨y, w, v, a, b, c, e⟩)
          · exact Or.inl (Or.inl z)
          · by_cases z : y = s
            · rw [z] at e; exact Or.inr ⟨w, v, b, c, e⟩
            · exact Or.inl (Or.inr ⟨y, w, v, by omega, b, c, e⟩)
  refine c_Ciph_markKeys (b_Ciph_markKeys_0 (by omega) (s_least (by decide) ?_))
  exact l1 (hg σ 0 + 1 - lo σ 0).toNat (lo σ 0) _ _ _ σ (Int.le_refl _) (by omega) Fr.rf (fun x x0 x1 => ⟨fun z => Or.inl z, fun z => z.elim id (fun ⟨y, w, v, a, _⟩ => by omega)⟩)
end
