/-! feed -/
theorem ian255 {a : Int} (h : i32 a) : ian a 255 = a % 256 := by
  unfold ian
  have e : (Int32.ofInt a &&& Int32.ofInt 255) = nI ((Int32.ofInt a).toBitVec.toNat % 2 ^ 8) := pk_and (Int32.ofInt a) (m := Int32.ofInt 255) 8 (by decide)
  rw [e, nI_toInt (by omega)]
  have := bv32 h
  omega
theorem ius_n {a : Int} (h : i32 a) (s : Int) (k : Nat) (hs : (((Int32.ofInt s).toUInt32 &&& Int32.toUInt32 31).toBitVec % 32).toNat = k) : ius a s % 4294967296 = a % 4294967296 / 2 ^ k := by
  unfold ius
  have e := pk_ushr (Int32.ofInt a) (Int32.ofInt s) k hs
  generalize ((Int32.ofInt a).toUInt32 >>> ((Int32.ofInt s).toUInt32 &&& Int32.toUInt32 31)).toInt32 = y at e
  have h1 : y.toInt = y.toBitVec.toInt := rfl
  have h2 := y.toBitVec.isLt
  have h3 := bv32 h
  have h4 : (y.toBitVec.toNat : Int) = a % 4294967296 / 2 ^ k := by rw [e, ← h3]; norm_cast
  rw [h1, BitVec.toInt_eq_toNat_cond, ← h4]
  split <;> omega
/-- byte j of a number, from the first -/
def byt (a j : Int) : Int := ian (isr a (24 - 8 * j)) 255
theorem byt_b {a j : Int} : 0 ≤ byt a j ∧ byt a j < 256 := by
  unfold byt
  rw [ian255 (show i32 (isr a (24 - 8 * j)) from ok32 _)]
  omega
theorem byt_eq {a j : Int} (h : i32 a) (hj : 0 ≤ j ∧ j < 4) : w8 (w8 (ius a (24 - 8 * j))) = w8 (byt a j) := by
  unfold byt
  rw [ian255 (show i32 (isr a (24 - 8 * j)) from ok32 _)]
  rcases (show j = 0 ∨ j = 1 ∨ j = 2 ∨ j = 3 by omega) with rfl | rfl | rfl | rfl
  · have e := ius_n h 24 24 (by decide)
    rw [show (24 : Int) - 8 * 0 = 24 by omega, isr_eq h (by omega)]
    generalize ius a 24 = u at e ⊢
    simp only [w8, show (24 : Int).toNat = 24 by decide] at *
    unfold i32 at h; omega
  · have e := ius_n h 16 16 (by decide)
    rw [show (24 : Int) - 8 * 1 = 16 by omega, isr_eq h (by omega)]
    generalize ius a 16 = u at e ⊢
    simp only [w8, show (16 : Int).toNat = 16 by decide] at *
    unfold i32 at h; omega
  · have e := ius_n h 8 8 (by decide)
    rw [show (24 : Int) - 8 * 2 = 8 by omega, isr_eq h (by omega)]
    generalize ius a 8 = u at e ⊢
    simp only [w8, show (8 : Int).toNat = 8 by decide] at *
    unfold i32 at h; omega
  · have e := ius_n h 0 0 (by decide)
    rw [show (24 : Int) - 8 * 3 = 0 by omega, isr_eq h (by omega)]
    generalize ius a 0 = u at e ⊢
    simp only [w8, show (0 : Int).toNat = 0 by decide] at *
    unfold i32 at h; omega
section
variable {E : EN} {d : Nat} {σ : Mem}
theorem s_putOnTape {K : Mem → Prop} {a n : Int} (ha : i32 a) (hn : 0 ≤ n ∧ n + 4 ≤ 900) (h1 : σ 0 1 = n) (q : ∀ τ : Mem, Fr [0, 1] σ τ → τ 0 1 = n + 4 → (∀ k, k ≠ 1 → τ 0 k = σ 0 k) → (∀ i, i < n → τ 1 i = σ 1 i) → (∀ j : Int, 0 ≤ j → j < 4 → τ 1 (n + j) = w8 (byt a j)) → K τ) : CV E y_BC_putOnTape d [vr 0, vi a] σ K := by
  have loop : ∀ (m : Nat) (j : Int) (τ : Mem), 0 ≤ j → j + m = 4 → Fr [0, 1] σ τ → τ 0 1 = n + j → (∀ k, k ≠ 1 → τ 0 k = σ 0 k) → (∀ i, i < n → τ 1 i = σ 1 i) → (∀ i : Int, 0 ≤ i → i < j → τ 1 (n + i) = w8 (byt a i)) → Z E y_BC_putOnTape d 3 [some (vr 0), some (vi a), some (vi (24 - 8 * j))] [] τ (qv K) := by
    intro m
    induction m with
    | zero =>
      intro j τ j0 hj hF e1 e2 e3 e4
      have ej : j = 4 := by omega
      subst ej
      exact b_BC_putOnTape_3 ⟨fun _ => q τ hF e1 e2 e3 e4, fun z => absurd z (by decide)⟩
    | succ m ih =>
      intro j τ j0 hj hF e1 e2 e3 e4
      refine b_BC_putOnTape_3 ⟨fun z => absurd z (by omega), fun _ => ⟨fun z => absurd z (by omega), fun _ => ⟨by omega, ?_⟩⟩⟩
      rw [e1, byt_eq ha (by omega), wid (x := n + j + 1) (by omega) (by omega), wid (x := 24 - 8 * j + -8) (by omega) (by omega), show 24 - 8 * j + -8 = 24 - 8 * (j + 1) by omega]
      refine ih (j + 1) _ (by omega) (by omega) ((hF.up (by simp)).up (by simp)) (by rw [up_same]; omega) (fun k hk => ?_) (fun i hi => ?_) (fun i i0 i1 => ?_)
      · rw [up_nk hk, up_nc (by decide)]; exact e2 k hk
      · rw [up_nc (by decide), up_nk (by omega)]; exact e3 i hi
      · rw [up_nc (by decide)]
        by_cases e : i = j
        · subst e; rw [up_same]
        · rw [up_nk (by omega)]; exact e4 i i0 (by omega)
  exact c_BC_putOnTape (b_BC_putOnTape_0 (loop 4 0 σ (by omega) (by omega) Fr.rf (by omega) (fun _ _ => rfl) (fun _ _ => rfl) (fun i i0 i1 => absurd i1 (by omega))))
end
theorem II.tape {σ τ : Mem} (h : II σ) (hF : Fr (0 :: 1 :: 118 :: scrt) σ τ) (hK : τ 115 33 = σ 115 33) (hT : TapeOK τ) : II τ := by
  have e : ∀ c, c ∉ 0 :: 1 :: 118 :: scrt → τ c = σ c := hF
  have e116 := e 116 (by decide)
  obtain ⟨a, b, c, d, f, g, i, j, l, m⟩ := h
  have e26 : ∀ c, 26 ≤ c → c ≤ 49 → τ c = σ c := fun c c0 c1 => e c (by simp [scrt]; omega)
  have e52 : ∀ c, 52 ≤ c → c ≤ 63 → c ≠ 53 → τ c = σ c := fun c c0 c1 c2 => e c (by simp [scrt]; omega)
  have e2 : ∀ c, 2 ≤ c → c ≤ 13 → τ c = σ c := fun c c0 c1 => e c (by simp [scrt]; omega)
  have et : ∀ c, 102 ≤ c → c ≤ 109 → τ c = σ c := fun c c0 c1 => e c (by simp [scrt]; omega)
  refine ⟨by rw [e116]; exact a, by rw [e116]; exact b.fr (fun c c0 c1 => e2 c (by omega) (by omega)), by rw [e116]; exact c.fr (by rw [e2 2 (by omega) (by omega)]) (e2 _ (by omega) (by omega)), ?_, f.fr e52 (by rw [e116]) (fun k _ _ => by rw [e116]), g.fr et (e _ (by decide)) (e _ (by decide)) (e _ (by decide)), i.fr e26 (e _ (by decide)) (e _ (by decide)) (e _ (by decide)) (e _ (by decide)) (fun k _ => by rw [e116]), hT, by rw [e116]; exact l.fr (e _ (by decide)) (e _ (by decide)), by rw [hK]; exact m⟩
  rw [e116]; exact d.fr (fun k _ _ => by rw [e 50 (by decide)]) (fun _ _ _ => rfl)
def wd5 (a b c d e k : Int) : Int := if k < 4 then a else if k < 8 then b else if k < 12 then c else if k < 16 then d else e
theorem sp0 : SP0 II := by
  intro E σ a b c d e hI hR ha hb hc hd he
  obtain ⟨-, -, -, -, -, -, -, ⟨t1, t2, t3, t4, t5⟩, -, m33⟩ := id hI
  refine c_BC_feed (b_BC_feed_0 (by omega) ?_)
  rw [wid (x := σ 0 1 + 20) (by omega) (by omega)]
  refine ⟨fun hle => ?_, fun hgt => ?_⟩
  · refine s_putOnTape ha (n := σ 0 1) (by omega) rfl (fun τ1 hF1 p1 q1 r1 s1 => ?_)
    refine s_putOnTape hb (n := σ 0 1 + 4) (by omega) p1 (fun τ2 hF2 p2 q2 r2 s2 => ?_)
    refine s_putOnTape hc (n := σ 0 1 + 4 + 4) (by omega) p2 (fun τ3 hF3 p3 q3 r3 s3 => ?_)
    refine s_putOnTape hd (n := σ 0 1 + 4 + 4 + 4) (by omega) p3 (fun τ4 hF4 p4 q4 r4 s4 => ?_)
    refine s_putOnTape he (n := σ 0 1 + 4 + 4 + 4 + 4) (by omega) p4 (fun τ5 hF5 p5 q5 r5 s5 => ?_)
    have hF : Fr [0, 1] σ τ5 := (((hF1.tr hF2).tr hF3).tr hF4).tr hF5
    have hk : ∀ k, k ≠ 1 → τ5 0 k = σ 0 k := fun k h => by rw [q5 k h, q4 k h, q3 k h, q2 k h, q1 k h]
    have hold : ∀ i, i < σ 0 1 → τ5 1 i = σ 1 i := fun i h => by rw [r5 i (by omega), r4 i (by omega), r3 i (by omega), r2 i (by omega), r1 i h]
    have hnew : ∀ k : Int, 0 ≤ k → k < 20 → τ5 1 (σ 0 1 + k) = w8 (byt (wd5 a b c d e k) (k % 4)) := by
      intro k k0 k1
      unfold wd5
      rcases (show k < 4 ∨ (4 ≤ k ∧ k < 8) ∨ (8 ≤ k ∧ k < 12) ∨ (12 ≤ k ∧ k < 16) ∨ 16 ≤ k by omega) with z | z | z | z | z
      · rw [if_pos z, r5 _ (by omega), r4 _ (by omega), r3 _ (by omega), r2 _ (by omega), s1 k (by omega) (by omega), show k % 4 = k by omega]
      · rw [if_neg (by omega), if_pos (by omega), r5 _ (by omega), r4 _ (by omega), r3 _ (by omega), show σ 0 1 + k = σ 0 1 + 4 + (k - 4) by omega, s2 _ (by omega) (by omega), show k % 4 = k - 4 by omega]
      · rw [if_neg (by omega), if_neg (by omega), if_pos (by omega), r5 _ (by omega), r4 _ (by omega), show σ 0 1 + k = σ 0 1 + 4 + 4 + (k - 8) by omega, s3 _ (by omega) (by omega), show k % 4 = k - 8 by omega]
      · rw [if_neg (by omega), if_neg (by omega), if_neg (by omega), if_pos (by omega), r5 _ (by omega), show σ 0 1 + k = σ 0 1 + 4 + 4 + 4 + (k - 12) by omega, s4 _ (by omega) (by omega), show k % 4 = k - 12 by omega]
      · rw [if_neg (by omega), if_neg (by omega), if_neg (by omega), if_neg (by omega), show σ 0 1 + k = σ 0 1 + 4 + 4 + 4 + 4 + (k - 16) by omega, s5 _ (by omega) (by omega), show k % 4 = k - 16 by omega]
    have m5 : τ5 115 = σ 115 := hF 115 (by decide)
    refine c_Mod_feed (b_Mod_feed_0 ?_)
    rw [m5, ← t1, wid (x := σ 0 1 + 20) (by omega) (by omega)]
    refine ⟨fun _ => ?_, fun z => absurd z (by omega)⟩
    have loop : ∀ (m : Nat) (k : Int) (τ : Mem) (o7 : Option AV), 0 ≤ k → k + m = 20 → Fr [115, 118] (up τ5 115 0 0) τ → keep [0, 5] τ5 τ → τ 115 5 = σ 0 1 + k → (∀ i, i < σ 0 1 → τ 118 i = σ 118 i) → (∀ i : Int, 0 ≤ i → i < k → τ 118 (σ 0 1 + i) = byt (wd5 a b c d e i) (i % 4)) → Z E y_Mod_feed 400 24 [some (vr 115), some (vi a), some (vi b), some (vi c), some (vi d), some (vi e), some (vi k), o7] [] τ (qi fun y υ => τ5 0 1 = y ∧ II υ) := by
      intro m
      induction m with
      | zero =>
        intro k τ o7 k0 hk2 hFt hKt h5 ho hn
        refine b_Mod_feed_24 ⟨fun _ => ⟨by rw [p5, h5]; omega, ?_⟩, fun z => absurd z (by omega)⟩
        have g0 : ∀ k, τ 0 k = τ5 0 k := fun k => by rw [hFt 0 (by decide), up_nc (by decide)]
        have g1 : ∀ k, τ 1 k = τ5 1 k := fun k => by rw [hFt 1 (by decide), up_nc (by decide)]
        refine hI.tape (fun x hx => ?_) (by rw [hKt 33 (by decide), m5]) ⟨?_, ?_, fun i i0 i1 => ?_, ?_, ?_⟩
        · have n1 : x ∉ [115, 118] ∧ x ≠ 115 ∧ x ∉ [0, 1] := by simp [scrt] at hx ⊢; omega
          rw [hFt x n1.1, up_cell n1.2.1, hF x n1.2.2]
        · rw [g0, p5, h5]; omega
        · rw [g0, p5]; omega
        · rw [g0, p5] at i1
          rw [g1]
          by_cases z : i < σ 0 1
          · rw [hold i z, ho i z]; exact t3 i i0 z
          · have e1 := hnew (i - σ 0 1) (by omega) (by omega)
            have e2 := hn (i - σ 0 1) (by omega) (by omega)
            rw [show σ 0 1 + (i - σ 0 1) = i by omega] at e1 e2
            rw [e1, e2]; exact ⟨rfl, byt_b⟩
        · rw [g0, hk 2 (by decide), hKt 13 (by decide), m5]; exact t4
        · rw [g0, hk 3 (by decide), hKt 14 (by decide), m5]; exact t5
      | succ m ih =>
        intro k τ o7 k0 hk2 hFt hKt h5 ho hn
        have go : ∀ s0 o7, s0 = wd5 a b c d e k → Z E y_Mod_feed 400 77 [some (vr 115), some (vi a), some (vi b), some (vi c), some (vi d), some (vi e), some (vi k), o7] [vi s0] τ (qi fun y υ => τ5 0 1 = y ∧ II υ) := by
          intro s0 o7 hs0
          refine b_Mod_feed_77 ⟨by omega, ?_⟩
          rw [h5, Int.tmod_eq_emod_of_nonneg k0, wid (x := 8 * (k % 4)) (by omega) (by omega), wid (x := 24 - 8 * (k % 4)) (by omega) (by omega), wid (x := σ 0 1 + k + 1) (by omega) (by omega), wid (x := k + 1) (by omega) (by omega)]
          refine ih (k + 1) _ _ (by omega) (by omega) ((hFt.up (by decide)).up (by decide)) (fun j hj => ?_) (by rw [up_same]; omega) (fun i hi => ?_) (fun i i0 i1 => ?_)
          · have hj' : j ≠ 5 := by simp at hj; omega
            rw [up_nk hj', up_nc (by decide)]; exact hKt j hj
          · rw [up_nc (by decide), up_nk (by omega)]; exact ho i hi
          · rw [up_nc (by decide)]
            by_cases z : i = k
            · subst z; rw [up_same, hs0]; rfl
            · rw [up_nk (by omega)]; exact hn i i0 (by omega)
        unfold wd5 at go
        refine b_Mod_feed_24 ⟨fun z => absurd z (by omega), fun _ => ⟨fun z1 => ⟨fun z2 => ⟨fun z3 => ⟨fun z4 => go _ _ ?_, fun z4 => go _ _ ?_⟩, fun z3 => go _ _ ?_⟩, fun z2 => go _ _ ?_⟩, fun z1 => go _ _ ?_⟩⟩
        · rw [if_neg (by omega), if_neg (by omega), if_neg (by omega), if_neg (by omega)]
        · rw [if_neg (by omega), if_neg (by omega), if_neg (by omega), if_pos (by omega)]
        · rw [if_neg (by omega), if_neg (by omega), if_pos (by omega)]
        · rw [if_neg (by omega), if_pos (by omega)]
        · rw [if_pos (by omega)]
    exact loop 20 0 _ _ (by omega) (by omega) Fr.rf (keep.rf.up (by decide)) (by rw [up_nk (by decide), m5, ← t1]; omega) (fun i hi => by rw [up_nc (by decide), hF 118 (by decide)]) (fun i i0 i1 => absurd i1 (by omega))
  · refine c_Mod_feed (b_Mod_feed_0 ?_)
    rw [← t1, wid (x := σ 0 1 + 20) (by omega) (by omega)]
    exact ⟨fun z => absurd z (by omega), fun _ => ⟨rfl, hI.thr⟩⟩
