/-! ciphers: the reference's side; place, plain -/
def MSh (τ : Mem) (i : Int) : Prop := τ 115 39 = rnF i ∧ ∀ j : Int, 0 ≤ j → j < rnF i → τ 128 j = shS i j
noncomputable def cdF (σ : Mem) (u : Int) : Int := if ¬ (0 ≤ u ∧ u < 4) then -2 else if σ 130 u = -1 then -6 else if σ 131 u < 1 then -4 else @ite _ (okC σ u (σ 131 u)) (Classical.propDecidable _) 0 (-3)
theorem cdF_cg {σ τ : Mem} {u : Int} (h0 : τ 130 = σ 130) (h1 : τ 131 = σ 131) (h2 : τ 132 = σ 132) : cdF τ u = cdF σ u := by
  unfold cdF okC; rw [h0, h1, h2]
theorem cdF_0 {σ : Mem} {u : Int} (hT : TrayOK σ) (h : cdF σ u = 0) : (0 ≤ u ∧ u < 4) ∧ Tr σ u ∧ 1 ≤ σ 131 u ∧ okC σ u (σ 131 u) := by
  unfold cdF at h
  split at h
  · exact absurd h (by decide)
  · rename_i z1
    split at h
    · exact absurd h (by decide)
    · rename_i z2
      split at h
      · exact absurd h (by decide)
      · rename_i z3
        split at h
        · rename_i z4
          have z1 := Classical.not_not.mp z1
          refine ⟨z1, ?_, by omega, z4⟩
          rcases hT.get z1 with w | w
          · exact absurd w.1 z2
          · exact w
        · exact absurd h (by decide)
section
variable {E : EN} {d : Nat} {σ : Mem} {t nm : Int → Int} {n L : Int}
theorem s_cipherCode {K : Int → Mem → Prop} {u : Int} (hd : 2 ≤ d) (hT : TrayOK σ) (q1 : cdF σ u ≠ 0 → ∀ τ, Fr [97] σ τ → K (cdF σ u) τ) (q0 : cdF σ u = 0 → ∀ τ, Fr [96, 97] σ τ → (∀ k, k ≠ 2 → τ 96 k = σ 96 k) → CTx τ (fun p => σ 132 (40 * u + p)) (σ 131 u) → K 0 τ) : CI E y_BC_cipherCode d [vr 0, vi u] σ K := by
  refine c_BC_cipherCode (b_BC_cipherCode_0 (by omega) (s_trayCode (by omega) hT (fun h => ⟨fun z => absurd z (by decide), fun _ => ?_⟩) (fun h hm => ⟨fun z => absurd z (by decide), fun _ => ?_⟩) (fun h hm => ⟨fun _ => ⟨h, s_load (by omega) h hm (fun a => ?_) (fun a b τ hF => ?_) (fun a b τ hF hk hC => ?_)⟩, fun z => absurd rfl z⟩)))
  · have e : cdF σ u = -2 := by unfold cdF; rw [if_pos h]
    have := q1 (by rw [e]; decide) σ Fr.rf; rw [e] at this; exact this
  · have e : cdF σ u = -6 := by unfold cdF; rw [if_neg (fun z => z h), if_pos hm]
    have := q1 (by rw [e]; decide) σ Fr.rf; rw [e] at this; exact this
  · have e : cdF σ u = -4 := by unfold cdF; rw [if_neg (fun z => z h), if_neg hm.ne, if_pos a]
    have := q1 (by rw [e]; decide) σ Fr.rf; rw [e] at this; exact this
  · have e : cdF σ u = -3 := by unfold cdF; rw [if_neg (fun z => z h), if_neg hm.ne, if_neg (by omega), if_neg b]
    have := q1 (by rw [e]; decide) τ hF; rw [e] at this; exact this
  · have e : cdF σ u = 0 := by unfold cdF; rw [if_neg (fun z => z h), if_neg hm.ne, if_neg (by omega), if_pos b]
    exact q0 e τ hF hk hC
theorem t_noCipher {K : Int → Mem → Prop} {u : Int} (hd : 2 ≤ d) (hT : TrayOK σ) (q : K (cdF σ u) σ) : CI E y_Mod_noCipher d [vr 115, vi u] σ K := by
  refine c_Mod_noCipher (b_Mod_noCipher_0 (by omega) (s_noTr (by omega) hT (fun h => ⟨fun z => absurd z (by decide), fun _ => ?_⟩) (fun h hm => ⟨fun z => absurd z (by decide), fun _ => ?_⟩) (fun h hm => ⟨fun _ => ⟨h, ?_⟩, fun z => absurd rfl z⟩)))
  · have e : cdF σ u = -2 := by unfold cdF; rw [if_pos h]
    rw [e] at q; exact q
  · have e : cdF σ u = -6 := by unfold cdF; rw [if_neg (fun z => z h), if_pos hm]
    rw [e] at q; exact q
  · have r4 := hm.2.2.2.1
    have r3 := hm.2.2.1
    refine s_within (fun a => ⟨fun _ => ?_, fun z => absurd z (by decide)⟩) (fun a => ⟨fun z => absurd rfl z, fun _ => ?_⟩)
    · have loop : ∀ (m : Nat) (j : Int) (o2 : Option AV), 0 ≤ j → j + m = σ 131 u → (∀ k : Int, 0 ≤ k → k < j → 0 ≤ σ 132 (40 * u + k) ∧ σ 132 (40 * u + k) ≤ 25) → Z E y_Mod_noCipher d 34 [some (vr 115), some (vi u), o2, some (vi j)] [] σ (qi K) := by
        intro m
        induction m with
        | zero =>
          intro j o2 j0 hj hk
          have hok : okC σ u (σ 131 u) := fun p p0 p1 => hk p p0 (by omega)
          have e : cdF σ u = 0 := by unfold cdF; rw [if_neg (fun z => z h), if_neg hm.ne, if_neg (by omega), if_pos hok]
          rw [e] at q
          exact b_Mod_noCipher_34 (by omega) ⟨h, fun _ => q, fun z => absurd z (by omega)⟩
        | succ m ih =>
          intro j o2 j0 hj hk
          refine b_Mod_noCipher_34 (by omega) ⟨h, fun z => absurd z (by omega), fun _ => ?_⟩
          rw [wid (x := 40 * u) (by omega) (by omega), wid (x := 40 * u + j) (by omega) (by omega), wid (x := j + 1) (by omega) (by omega)]
          refine ⟨by omega, s_within (fun b => ⟨fun _ => ih (j + 1) _ (by omega) (by omega) (fun k k0 k1 => ?_), fun z => absurd z (by decide)⟩) (fun b => ⟨fun z => absurd rfl z, fun _ => ?_⟩)⟩
          · by_cases w : k = j
            · subst w; exact b
            · exact hk k k0 (by omega)
          · have e : cdF σ u = -3 := by unfold cdF; rw [if_neg (fun z => z h), if_neg hm.ne, if_neg (by omega), if_neg (fun w => b (w j j0 (by omega)))]
            rw [e] at q; exact q
      exact loop (σ 131 u).toNat 0 _ (by omega) (by omega) (fun k a b => absurd b (by omega))
    · have e : cdF σ u = -4 := by unfold cdF; rw [if_neg (fun z => z h), if_neg hm.ne, if_pos (by omega)]
      rw [e] at q; exact q
theorem t_laysKey {K : Int → Mem → Prop} {i : Int} (hi : 0 ≤ i ∧ i < 18278) (q : ∀ τ : Mem, Fr [115, 128] σ τ → keep [39] σ τ → MSh τ i → K (knF i) τ) : CI E y_Mod_laysKey d [vr 115, vi i] σ K := by
  refine c_Mod_laysKey (b_Mod_laysKey_0 ⟨fun a => ⟨fun b => ?_, fun b => ?_⟩, fun a => ?_⟩)
  · rw [wid (x := i - 702) (by omega) (by omega)]
    refine b_Mod_laysKey_29 ⟨fun _ => ⟨fun _ => ?_, fun z => absurd z (by omega)⟩, fun z => absurd z (by omega)⟩
    have er : rnF i = 3 := by unfold rnF; rw [if_neg (by omega), if_neg (by omega)]
    have ek : knF i = 1000 + (i - 702) := by unfold knF; rw [if_neg (by omega), if_neg (by omega)]
    refine b_Mod_laysKey_66 (a1 := 0) ⟨fun z => absurd z (by decide), fun _ => ⟨by decide, ?_⟩⟩
    refine b_Mod_laysKey_66 (a1 := 0) ⟨fun z => absurd z (by decide), fun _ => ⟨by decide, ?_⟩⟩
    refine b_Mod_laysKey_66 (a1 := 0) ⟨fun z => absurd z (by decide), fun _ => ⟨by decide, ?_⟩⟩
    refine b_Mod_laysKey_66 (a1 := 0) ⟨fun _ => ⟨fun _ => ⟨fun _ => ?_, fun z => ?_⟩, fun z => ?_⟩, fun z => absurd z (by decide)⟩
    · rw [Int.tdiv_eq_ediv_of_nonneg (show 0 ≤ i - 702 by omega), wid (x := (i - 702) / 26) (by omega) (by omega), Int.tdiv_eq_ediv_of_nonneg (show 0 ≤ (i - 702) / 26 by omega), wid (x := (i - 702) / 26 / 26) (by omega) (by omega), Int.tmod_eq_emod_of_nonneg (show 0 ≤ i - 702 by omega), Int.tmod_eq_emod_of_nonneg (show 0 ≤ (i - 702) / 26 by omega), Int.tmod_eq_emod_of_nonneg (show 0 ≤ (i - 702) / 26 / 26 by omega), wid (x := 1000 + (i - 702)) (by omega) (by omega), ← ek]
      refine q _ ((((Fr.rf.up (by simp)).up (by simp)).up (by simp)).up (by simp)) (fun k hk => by rw [up_nc (by decide), up_nc (by decide), up_nc (by decide), up_nk (by simpa using hk)]) ⟨by rw [up_nc (by decide), up_nc (by decide), up_nc (by decide), up_same, er], fun j j0 j1 => ?_⟩
      rw [er] at j1
      have w2 : w32 (3 - 1) = 2 := by decide
      have w1 : w32 (w32 (3 - 1) + -1) = 1 := by decide
      have w0 : w32 (w32 (w32 (3 - 1) + -1) + -1) = 0 := by decide
      rw [w0, w1, w2]
      unfold shS
      rw [if_neg (by omega), if_neg (by omega)]
      clear w0 w1 w2
      rcases (show j = 0 ∨ j = 1 ∨ j = 2 by omega) with rfl | rfl | rfl
      · rw [up_same, if_pos rfl]; omega
      · rw [up_nk (by decide), up_same, if_neg (by decide), if_pos rfl]
      · rw [up_nk (by decide), up_nk (by decide), up_same, if_neg (by decide), if_neg (by decide)]
    · rw [up_nc (by decide), up_nc (by decide), up_nc (by decide), up_same] at z; exact absurd z (by decide)
    · rw [up_nc (by decide), up_nc (by decide), up_nc (by decide), up_same] at z; exact absurd z (by decide)
  · rw [wid (x := i - 26) (by omega) (by omega)]
    refine b_Mod_laysKey_29 ⟨fun _ => ⟨fun z => absurd z (by omega), fun _ => ?_⟩, fun z => absurd z (by omega)⟩
    have er : rnF i = 2 := by unfold rnF; rw [if_neg (by omega), if_pos (by omega)]
    have ek : knF i = 100 + (i - 26) := by unfold knF; rw [if_neg (by omega), if_pos (by omega)]
    refine b_Mod_laysKey_66 (a1 := 0) ⟨fun z => absurd z (by decide), fun _ => ⟨by decide, ?_⟩⟩
    refine b_Mod_laysKey_66 (a1 := 0) ⟨fun z => absurd z (by decide), fun _ => ⟨by decide, ?_⟩⟩
    refine b_Mod_laysKey_66 (a1 := 0) ⟨fun _ => ⟨fun _ => ⟨fun z => ?_, fun _ => ?_⟩, fun z => ?_⟩, fun z => absurd z (by decide)⟩
    · rw [up_nc (by decide), up_nc (by decide), up_same] at z; exact absurd rfl z
    · rw [Int.tdiv_eq_ediv_of_nonneg (show 0 ≤ i - 26 by omega), wid (x := (i - 26) / 26) (by omega) (by omega), Int.tmod_eq_emod_of_nonneg (show 0 ≤ i - 26 by omega), Int.tmod_eq_emod_of_nonneg (show 0 ≤ (i - 26) / 26 by omega), wid (x := 100 + (i - 26)) (by omega) (by omega), ← ek]
      refine q _ (((Fr.rf.up (by simp)).up (by simp)).up (by simp)) (fun k hk => by rw [up_nc (by decide), up_nc (by decide), up_nk (by simpa using hk)]) ⟨by rw [up_nc (by decide), up_nc (by decide), up_same, er], fun j j0 j1 => ?_⟩
      rw [er] at j1
      have w1 : w32 (2 - 1) = 1 := by decide
      have w0 : w32 (w32 (2 - 1) + -1) = 0 := by decide
      rw [w0, w1]
      clear w0 w1
      unfold shS
      rw [if_neg (by omega), if_pos (by omega)]
      rcases (show j = 0 ∨ j = 1 by omega) with rfl | rfl
      · rw [up_same, if_pos rfl]; omega
      · rw [up_nk (by decide), up_same, if_neg (by decide)]
    · rw [up_nc (by decide), up_nc (by decide), up_same] at z; exact absurd z (by decide)
  · refine b_Mod_laysKey_29 ⟨fun z => absurd z (by omega), fun _ => ?_⟩
    have er : rnF i = 1 := by unfold rnF; rw [if_pos (by omega)]
    have ek : knF i = i := by unfold knF; rw [if_pos (by omega)]
    refine b_Mod_laysKey_66 (a1 := 0) ⟨fun z => absurd z (by decide), fun _ => ⟨by decide, ?_⟩⟩
    refine b_Mod_laysKey_66 (a1 := 0) ⟨fun _ => ⟨fun z => ?_, fun _ => ?_⟩, fun z => absurd z (by decide)⟩
    · rw [up_nc (by decide), up_same] at z; exact absurd rfl z
    · rw [Int.tmod_eq_emod_of_nonneg hi.1]
      have := q (up (up σ 115 39 1) 128 (w32 (1 - 1)) (i % 26)) ((Fr.rf.up (by simp)).up (by simp)) (fun k hk => by rw [up_nc (by decide), up_nk (by simpa using hk)]) ⟨by rw [up_nc (by decide), up_same, er], fun j j0 j1 => ?_⟩
      · rw [ek] at this; exact this
      · rw [er] at j1
        have w0 : w32 (1 - 1) = 0 := by decide
        rw [w0]
        clear w0
        unfold shS
        rw [if_pos (by omega), show j = 0 by omega, up_same]; omega
theorem t_plainAt {K : Int → Mem → Prop} {i u p : Int} (hi : 0 ≤ i ∧ i < 18278) (hu : 0 ≤ u ∧ u < 4) (hS : MSh σ i) (hp : 0 ≤ p ∧ p < 40) (ht : 0 ≤ σ 132 (40 * u + p) ∧ σ 132 (40 * u + p) ≤ 25) (q : K (plF (fun p => σ 132 (40 * u + p)) i p) σ) : CI E y_Mod_plainAt d [vr 115, vi u, vi p] σ K := by
  have rb := rnF_b i
  have tm := tm3 hp.1 rb
  have sb := shS_b (j := p % rnF i) hi
  refine c_Mod_plainAt (b_Mod_plainAt_0 ?_)
  rw [wid (x := 40 * u) (by omega) (by omega), wid (x := 40 * u + p) (by omega) (by omega), wid (x := σ 132 (40 * u + p)) (by omega) (by omega), hS.1, tm.1, hS.2 _ tm.2.1 tm.2.2, wid (x := σ 132 (40 * u + p) - shS i (p % rnF i)) (by omega) (by omega), wid (x := σ 132 (40 * u + p) - shS i (p % rnF i) + 26) (by omega) (by omega)]
  have e : plF (fun p => σ 132 (40 * u + p)) i p = (σ 132 (40 * u + p) - shS i (p % rnF i)) % 26 := rfl
  rw [e] at q
  refine ⟨by omega, by omega, by omega, fun z => ?_, fun z => ?_⟩
  · rw [show (σ 132 (40 * u + p) - shS i (p % rnF i)) % 26 = σ 132 (40 * u + p) - shS i (p % rnF i) by omega] at q; exact q
  · rw [show (σ 132 (40 * u + p) - shS i (p % rnF i)) % 26 = σ 132 (40 * u + p) - shS i (p % rnF i) + 26 by omega] at q; exact q
theorem t_placeOf {K : Int → Mem → Prop} {i u : Int} (hd : 1 ≤ d) (hi : 0 ≤ i ∧ i < 18278) (hu : 0 ≤ u ∧ u < 4) (hS : MSh σ i) (hT : MT (σ 116)) (hn : 1 ≤ σ 131 u ∧ σ 131 u ≤ 40) (ht : okC σ u (σ 131 u)) (q : K (plcF (fun p => σ 132 (40 * u + p)) (fun m => σ 116 (19 + m)) (σ 116 6) (σ 131 u) i) σ) : CI E y_Mod_placeOf d [vr 115, vi u] σ K := by
  have t6 := hT.2.2.2.2.2.1
  have n7 := hT.2.2.2.2.2.2.1
  unfold plcF at q
  refine c_Mod_placeOf (b_Mod_placeOf_0 ?_)
  by_cases l0 : σ 116 6 < 1
  · rw [if_pos l0] at q
    exact b_Mod_placeOf_2 ⟨fun _ => q, fun z => absurd z (by omega)⟩
  · rw [if_neg l0] at q
    have loop : ∀ (m : Nat) (p : Int) (o3 : Option AV), 0 ≤ p → p + m = 41 → K (plcS (fun p => σ 132 (40 * u + p)) (fun m => σ 116 (19 + m)) (σ 116 6) (σ 131 u) i m p) σ → Z E y_Mod_placeOf d 2 [some (vr 115), some (vi u), some (vi p), o3] [] σ (qi K) := by
      intro m
      induction m with
      | zero =>
        intro p o3 p0 hp q
        refine b_Mod_placeOf_2 ⟨fun z => absurd z (by omega), fun _ => ?_⟩
        rw [wid (x := p + σ 116 6) (by omega) (by omega)]
        exact ⟨hu, fun _ => q, fun z => absurd z (by omega)⟩
      | succ m ih =>
        intro p o3 p0 hp q
        simp only [plcS] at q
        refine b_Mod_placeOf_2 ⟨fun z => absurd z (by omega), fun _ => ?_⟩
        rw [wid (x := p + σ 116 6) (by omega) (by omega)]
        refine ⟨hu, fun z => ?_, fun z => ?_⟩
        · rw [if_pos z] at q; exact q
        · rw [if_neg (by omega)] at q
          have inner : ∀ (m2 : Nat) (j : Int), 0 ≤ j → j + m2 = σ 116 6 → (∀ k : Int, 0 ≤ k → k < j → plF (fun p => σ 132 (40 * u + p)) i (p + k) = σ 116 (19 + k)) → Z E y_Mod_placeOf d 32 [some (vr 115), some (vi u), some (vi p), some (vi j)] [] σ (qi K) := by
            intro m2
            induction m2 with
            | zero =>
              intro j j0 hj hk
              refine b_Mod_placeOf_32 (by omega) ⟨fun _ => ⟨fun y => absurd (by omega) y, fun _ => ?_⟩, fun y => absurd y (by omega)⟩
              have hN : NAt (fun p => σ 132 (40 * u + p)) (fun m => σ 116 (19 + m)) (σ 116 6) i p := fun k a b => hk k a (by omega)
              rw [if_pos hN] at q; exact q
            | succ m2 ih2 =>
              intro j j0 hj hk
              refine b_Mod_placeOf_32 (by omega) ⟨fun y => absurd y (by omega), fun _ => ?_⟩
              rw [wid (x := p + j) (by omega) (by omega), wid (x := 19 + j) (by omega) (by omega), wid (x := j + 1) (by omega) (by omega)]
              refine t_plainAt hi hu hS (by omega) (ht (p + j) (by omega) (by omega)) ⟨by omega, fun y => ⟨fun _ => ?_, fun w => absurd w (by omega)⟩, fun y => ih2 (j + 1) (by omega) (by omega) (fun k a b => ?_)⟩
              · have hN : ¬ NAt (fun p => σ 132 (40 * u + p)) (fun m => σ 116 (19 + m)) (σ 116 6) i p := fun w => y (w j j0 (by omega))
                rw [if_neg hN] at q
                rw [wid (x := p + 1) (by omega) (by omega)]
                exact ih (p + 1) _ (by omega) (by omega) q
              · by_cases w : k = j
                · subst w; exact y
                · exact hk k a (by omega)
          exact inner (σ 116 6).toNat 0 (by omega) (by omega) (fun k a b => absurd b (by omega))
    exact loop 41 0 _ (by omega) (by omega) q
theorem t_isKey {K : Int → Mem → Prop} {key : Int} (hd : 1 ≤ d) (hk : i32 key) (k1 : ∀ (i : Int) (τ : Mem), isKy key i → (0 ≤ i ∧ i < 18278) → Fr [115, 128] σ τ → keep [39] σ τ → MSh τ i → K 1 τ) (k0 : noKy key → ∀ τ, Fr [115, 128] σ τ → keep [39] σ τ → K 0 τ) : CI E y_Mod_isKey d [vr 115, vi key] σ K := by
  have go : ∀ s0 o, (key < 100 → s0 = key) → (100 ≤ key → key < 1000 → s0 = key - 74) → (1000 ≤ key → s0 = key - 298) → Z E y_Mod_isKey d 29 [some (vr 115), some (vi key), o] [vi s0] σ (qi K) := by
    intro s0 o h1 h2 h3
    unfold i32 at hk
    refine b_Mod_isKey_29 (by omega) (s_within (fun z => ⟨fun _ => t_laysKey (by omega) (fun τ hF hK hS => ⟨fun y => ?_, fun y => ?_⟩), fun w => absurd w (by decide)⟩) (fun z => ⟨fun w => absurd rfl w, fun _ => k0 ?_ σ Fr.rf keep.rf⟩))
    · refine k0 ?_ τ hF hK
      unfold knF at y
      unfold noKy
      split at y
      · omega
      · split at y <;> omega
    · refine k1 s0 τ ?_ (by omega) hF hK hS
      unfold knF at y
      unfold isKy
      split at y
      · omega
      · split at y <;> omega
    · unfold noKy; omega
  refine c_Mod_isKey (b_Mod_isKey_0 ⟨fun a => ⟨fun b => ?_, fun b => ?_⟩, fun a => ?_⟩)
  · unfold i32 at hk; rw [wid (x := key - 298) (by omega) (by omega)]; exact go _ _ (fun z => by omega) (fun z => by omega) (fun _ => rfl)
  · rw [wid (x := key - 74) (by omega) (by omega)]; exact go _ _ (fun z => by omega) (fun _ _ => rfl) (fun z => by omega)
  · exact go _ _ (fun _ => rfl) (fun z => by omega) (fun z => by omega)
end
theorem isKy_u {key i j : Int} (h : isKy key i) (g : isKy key j) : i = j := by unfold isKy at h g; omega
theorem isKy_n {key i : Int} (h : isKy key i) (g : noKy key) : False := by unfold isKy at h; unfold noKy at g; omega
/-- the class's scratch for ciphers -/
def ciS : List Nat := [96, 97, 98, 99, 100]
theorem II.ci {σ τ : Mem} (h : II σ) (hF : Fr ciS σ τ) : II τ := h.same (hF.wk (by decide)) (fun k _ => by rw [hF 115 (by decide)])
theorem II.km {σ τ : Mem} (h : II σ) (hF : Fr [115, 128] σ τ) (hK : keep [39] σ τ) : II τ := h.same (hF.wk (by decide)) (fun k hk => hK k (by simp at hk ⊢; omega))
theorem HR.nm {σ : Mem} {T : Int → Int} (hT : MT T) (h : HR σ 2 T) : CNm σ (fun m => T (19 + m)) (T 6) :=
  ⟨h.1.2.2.2.2.2.2, hT.2.2.2.2.2.1, fun m m0 m1 => ⟨h.2.2.2.2.1 m m0 m1, hT.2.2.2.2.2.2.1 m m0 m1⟩⟩
theorem CNm.fr {σ τ : Mem} {nm : Int → Int} {L : Int} (h : CNm σ nm L) (e2 : τ 2 = σ 2) (e7 : τ 7 = σ 7) : CNm τ nm L := by unfold CNm at h ⊢; rw [e2, e7]; exact h
theorem sp38 : SP38 II := by
  intro E σ u key hI hR hu hk
  obtain ⟨T, f, e6, hT, hH, hP, hc2, hS, hM, hf, hTr, hPa⟩ := hI.ex
  refine c_BC_place (b_BC_place_0 (by omega) (s_cipherCode (by omega) hTr (fun hne τ hF => ⟨fun z => absurd z hne, fun _ => ?_⟩) (fun he τ hF hk2 hC => ⟨fun _ => ?_, fun z => absurd rfl z⟩)))
  · have hI2 := hI.ci (hF.wk (by decide))
    have g : ∀ c, c ≠ 97 → c ≠ 115 → up τ 115 0 0 c = σ c := fun c a b => by rw [up_cell b, hF.one a]
    have e : cdF (up τ 115 0 0) u = cdF σ u := cdF_cg (g _ (by decide) (by decide)) (g _ (by decide) (by decide)) (g _ (by decide) (by decide))
    refine c_Mod_place (b_Mod_place_0 (by omega) (t_noCipher (by omega) hI2.thr.2.2.2.2.2.1 ?_))
    rw [e]
    exact ⟨fun z => absurd z hne, fun _ => ⟨rfl, hI2.thr⟩⟩
  · obtain ⟨hu4, hr, hn1, hok⟩ := cdF_0 hTr he
    have r3 := hr.2.2.1
    have r4 := hr.2.2.2.1
    have M : ∀ (τ2 : Mem) (x : Int), Fr ciS σ τ2 → (noKy key → x = -3) → (∀ i, isKy key i → x = plcF (fun p => σ 132 (40 * u + p)) (fun m => T (19 + m)) (T 6) (σ 131 u) i) → CI E y_Mod_place 400 [vr 115, vi u, vi key] τ2 (fun y υ => x = y ∧ II υ) := by
      intro τ2 x hF2 x0 x1
      have hI2 := hI.ci hF2
      have g : ∀ c, c ∉ ciS → c ≠ 115 → up τ2 115 0 0 c = σ c := fun c a b => by rw [up_cell b, hF2 c a]
      have e : cdF (up τ2 115 0 0) u = cdF σ u := cdF_cg (g _ (by decide) (by decide)) (g _ (by decide) (by decide)) (g _ (by decide) (by decide))
      refine c_Mod_place (b_Mod_place_0 (by omega) (t_noCipher (by omega) hI2.thr.2.2.2.2.2.1 ?_))
      rw [e]
      refine ⟨fun _ => t_isKey (by omega) hk (fun i τ3 hik hib hF3 hK3 hS3 => ⟨fun z => absurd z (by decide), fun _ => ?_⟩) (fun hno τ3 hF3 hK3 => ⟨fun _ => ⟨x0 hno, hI2.thr.km hF3 hK3⟩, fun z => absurd rfl z⟩), fun z => absurd he z⟩
      have g3 : ∀ c, c ∉ ciS → c ≠ 115 → c ≠ 128 → τ3 c = σ c := fun c a b b2 => by rw [hF3 c (by simp [b, b2]), g c a b]
      have m6 : τ3 116 = T := by rw [g3 116 (by decide) (by decide) (by decide), e6]
      have m131 := g3 131 (by decide) (by decide) (by decide)
      have m132 := g3 132 (by decide) (by decide) (by decide)
      refine t_placeOf (by omega) hib hu4 hS3 (by rw [m6]; exact hT) (by rw [m131]; omega) (by unfold okC at hok ⊢; rw [m131, m132]; exact hok) ⟨?_, hI2.thr.km hF3 hK3⟩
      rw [m6, m131, m132]; exact x1 i hik
    refine s_turn (by omega) (fun i τ2 hik hib hF2 hk3 hC2 => ⟨fun z => absurd z (by decide), fun _ => ?_⟩) (fun hno => ⟨fun _ => M τ _ (hF.wk (by decide)) (fun _ => rfl) (fun i hi => absurd hno (fun z => isKy_n hi z)), fun z => absurd rfl z⟩)
    have hFF : Fr ciS σ τ2 := (hF.wk (by decide)).tr (hF2.wk (by decide))
    have hC3 : CTx τ2 (fun p => σ 132 (40 * u + p)) (σ 131 u) := ⟨by rw [hk3 2 (by decide)]; exact hC.1, hC.2.1, fun p p0 p1 => by rw [hF2 97 (by decide)]; exact hC.2.2 p p0 p1⟩
    refine s_nameIn (by omega) hib hC2 hC3 ((hH.nm hT).fr (hFF 2 (by decide)) (hFF 7 (by decide))) ?_
    exact M τ2 _ hFF (fun z => absurd z (fun w => isKy_n hik w)) (fun j hj => by rw [isKy_u hj hik])
