/-! ciphers: keys by their places, letters made plain -/
def rnF (i : Int) : Int := if i < 26 then 1 else if i < 702 then 2 else 3
def shS (i j : Int) : Int := if i < 26 then i else if i < 702 then (if j = 0 then (i - 26) / 26 else (i - 26) % 26) else (if j = 0 then (i - 702) / 676 else if j = 1 then (i - 702) / 26 % 26 else (i - 702) % 26)
theorem rnF_b (i : Int) : 1 ≤ rnF i ∧ rnF i ≤ 3 := by unfold rnF; (repeat' split) <;> omega
theorem shS_b {i j : Int} (h : 0 ≤ i ∧ i < 18278) : 0 ≤ shS i j ∧ shS i j < 26 := by unfold shS; (repeat' split) <;> omega
def knF (i : Int) : Int := if i < 26 then i else if i < 702 then 100 + (i - 26) else 1000 + (i - 702)
def plF (t : Int → Int) (i p : Int) : Int := (t p - shS i (p % rnF i)) % 26
def NAt (t nm : Int → Int) (L i p : Int) : Prop := ∀ m : Int, 0 ≤ m → m < L → plF t i (p + m) = nm m
noncomputable def plcS (t nm : Int → Int) (L n i : Int) : Nat → Int → Int
  | 0, _ => -1
  | m + 1, p => if n < p + L then -1 else @ite _ (NAt t nm L i p) (Classical.propDecidable _) p (plcS t nm L n i m (p + 1))
noncomputable def plcF (t nm : Int → Int) (L n i : Int) : Int := if L < 1 then -1 else plcS t nm L n i 41 0
theorem xo26_1 : ∀ x : Fin 51, (0 ≤ ixo ((x.val : Int) - 25) 26 ↔ 0 ≤ (x.val : Int) - 25) ∧ Int.tmod ((x.val : Int) - 25) 26 = (x.val : Int) - 25 := by decide +kernel
theorem xo26 {x : Int} (h : -26 < x ∧ x < 26) : (0 ≤ ixo x 26 ↔ 0 ≤ x) ∧ Int.tmod x 26 = x := by
  have := xo26_1 ⟨(x + 25).toNat, by omega⟩
  simp only [show (((x + 25).toNat : Nat) : Int) - 25 = x by omega] at this
  exact this
/-- the class's side -/
def CSh (τ : Mem) (i : Int) : Prop := τ 96 5 = rnF i ∧ ∀ j : Int, 0 ≤ j → j < rnF i → τ 99 j = shS i j
def CTx (τ : Mem) (t : Int → Int) (n : Int) : Prop := τ 96 2 = n ∧ (1 ≤ n ∧ n ≤ 40) ∧ ∀ p : Int, 0 ≤ p → p < n → τ 97 p = t p ∧ (0 ≤ t p ∧ t p ≤ 25)
def CNm (τ : Mem) (nm : Int → Int) (L : Int) : Prop := τ 2 6 = L ∧ (0 ≤ L ∧ L ≤ 8) ∧ ∀ m : Int, 0 ≤ m → m < L → τ 7 m = nm m ∧ (0 ≤ nm m ∧ nm m ≤ 25)
theorem tm3 {p r : Int} (hp : 0 ≤ p) (hr : 1 ≤ r ∧ r ≤ 3) : Int.tmod p r = p % r ∧ (0 ≤ p % r ∧ p % r < r) :=
  ⟨Int.tmod_eq_emod_of_nonneg hp, Int.emod_nonneg _ (by omega), Int.emod_lt_of_pos _ (by omega)⟩
section
variable {E : EN} {d : Nat} {σ : Mem} {t nm : Int → Int} {n L : Int}
theorem s_floorMod {K : Int → Mem → Prop} {x : Int} (h : -26 < x ∧ x < 26) (q : K (x % 26) σ) : CI E y_Math_floorMod d [vi x, vi 26] σ K := by
  have a := xo26 h
  refine c_Math_floorMod (b_Math_floorMod_0 ⟨by decide, fun z => ?_, fun z => ⟨fun y => ?_, fun y => ?_⟩⟩)
  · rw [a.2]; have := a.1.mp z; rw [show x % 26 = x by omega] at q; exact q
  · rw [a.2] at y ⊢; rw [show x % 26 = x by omega] at q; exact q
  · have h0 : ¬ 0 ≤ x := fun w => by have := a.1.mpr w; omega
    rw [a.2, wid (by omega) (by omega)]; rw [show x % 26 = x + 26 by omega] at q; exact q
theorem s_turnAt {K : Int → Mem → Prop} {p r : Int} (hr : σ 96 5 = r) (hb : 1 ≤ r ∧ r ≤ 3) (hp : 0 ≤ p) (q : K (p % r) σ) : CI E y_Ciph_turnAt d [vr 96, vi p] σ K := by
  refine c_Ciph_turnAt (b_Ciph_turnAt_0 ⟨fun z => absurd z (by omega), fun _ => ⟨fun z => absurd z (by omega), fun _ => ⟨by omega, ?_⟩⟩⟩)
  rw [hr, (tm3 hp hb).1]; exact q
theorem s_plainAt {K : Int → Mem → Prop} {i p : Int} (hd : 1 ≤ d) (hi : 0 ≤ i ∧ i < 18278) (hC : CSh σ i) (hT : CTx σ t n) (hp : 0 ≤ p ∧ p < n) (q : K (plF t i p) σ) : CI E y_Ciph_plainAt d [vr 96, vi p] σ K := by
  have rb := rnF_b i
  have tm := tm3 hp.1 rb
  have sb := shS_b (j := p % rnF i) hi
  obtain ⟨T1, T2, T3⟩ := hT
  have tp := T3 p hp.1 hp.2
  refine c_Ciph_plainAt (b_Ciph_plainAt_0 hd ⟨fun z => absurd z (by omega), fun _ => ⟨fun z => absurd z (by omega), fun _ => ⟨fun z => absurd z (by omega), fun _ => ⟨by omega, s_turnAt hC.1 rb hp.1 ⟨by omega, ?_⟩⟩⟩⟩⟩)
  rw [tp.1, hC.2 _ tm.2.1 tm.2.2, wid (by omega) (by omega)]
  exact s_floorMod (by omega) q
theorem s_nameIsAt {K : Int → Mem → Prop} {i p : Int} (hd : 2 ≤ d) (hi : 0 ≤ i ∧ i < 18278) (hC : CSh σ i) (hT : CTx σ t n) (hN : CNm σ nm L) (hp : 0 ≤ p ∧ p + L ≤ n) (k1 : NAt t nm L i p → K 1 σ) (k0 : ¬ NAt t nm L i p → K 0 σ) : CI E y_Ciph_nameIsAt d [vr 96, vi p] σ K := by
  obtain ⟨N1, N2, N3⟩ := hN
  have n40 := hT.2.1
  have loop : ∀ (m : Nat) (j : Int), 0 ≤ j → j + m = L → (∀ k : Int, 0 ≤ k → k < j → plF t i (p + k) = nm k) → Z E y_Ciph_nameIsAt d 2 [some (vr 96), some (vi p), some (vi j)] [] σ (qi K) := by
    intro m
    induction m with
    | zero =>
      intro j j0 hj h
      exact b_Ciph_nameIsAt_2 (by omega) ⟨fun _ => k1 (fun k a b => h k a (by omega)), fun z => absurd z (by omega)⟩
    | succ m ih =>
      intro j j0 hj h
      refine b_Ciph_nameIsAt_2 (by omega) ⟨fun z => absurd z (by omega), fun _ => ⟨fun z => absurd z (by omega), fun _ => ?_⟩⟩
      rw [wid (x := p + j) (by omega) (by omega)]
      refine s_plainAt (by omega) hi hC hT (by omega) ⟨by omega, ?_⟩
      rw [(N3 j j0 (by omega)).1, wid (x := j + 1) (by omega) (by omega)]
      refine ⟨fun e => ih (j + 1) (by omega) (by omega) (fun k a b => ?_), fun e => k0 (fun z => e (z j j0 (by omega)))⟩
      by_cases w : k = j
      · subst w; exact e
      · exact h k a (by omega)
  exact c_Ciph_nameIsAt (b_Ciph_nameIsAt_0 (loop L.toNat 0 (by omega) (by omega) (fun k a b => absurd b (by omega))))
theorem s_nameIn {K : Int → Mem → Prop} {i : Int} (hd : 3 ≤ d) (hi : 0 ≤ i ∧ i < 18278) (hC : CSh σ i) (hT : CTx σ t n) (hN : CNm σ nm L) (q : K (plcF t nm L n i) σ) : CI E y_Ciph_nameIn d [vr 96] σ K := by
  have N1 := hN.1
  have N2 := hN.2.1
  have n40 := hT.2.1
  have T1 := hT.1
  unfold plcF at q
  refine c_Ciph_nameIn (b_Ciph_nameIn_0 ⟨fun z => ?_, fun z => ?_⟩)
  · rw [if_neg (by omega)] at q
    have loop : ∀ (m : Nat) (p : Int), 0 ≤ p → p + m = 41 → K (plcS t nm L n i m p) σ → Z E y_Ciph_nameIn d 15 [some (vr 96), some (vi p)] [] σ (qi K) := by
      intro m
      induction m with
      | zero =>
        intro p p0 hp q
        refine b_Ciph_nameIn_15 (by omega) ?_
        rw [N1, T1, wid (x := p + L) (by omega) (by omega)]
        exact ⟨fun _ => q, fun z => absurd z (by omega)⟩
      | succ m ih =>
        intro p p0 hp q
        simp only [plcS] at q
        refine b_Ciph_nameIn_15 (by omega) ?_
        rw [N1, T1, wid (x := p + L) (by omega) (by omega), wid (x := p + 1) (by omega) (by omega)]
        refine ⟨fun z => ?_, fun z => s_nameIsAt (by omega) hi hC hT hN ⟨p0, z⟩ (fun y => ⟨fun w => absurd w (by decide), fun _ => ?_⟩) (fun y => ⟨fun _ => ?_, fun w => absurd rfl w⟩)⟩
        · rw [if_pos z] at q; exact q
        · rw [if_neg (by omega), if_pos y] at q; exact q
        · rw [if_neg (by omega), if_neg y] at q; exact ih (p + 1) (by omega) (by omega) q
    exact loop 41 0 (by omega) (by omega) q
  · rw [if_pos (by omega)] at q; exact q
theorem s_setShifts {K : Mem → Prop} {i : Int} (hi : 0 ≤ i ∧ i < 18278) (q : ∀ τ : Mem, Fr [96, 99] σ τ → (∀ k, k ≠ 5 → τ 96 k = σ 96 k) → CSh τ i → K τ) : CV E y_Ciph_setShifts d [vr 96, vi i] σ K := by
  refine c_Ciph_setShifts (b_Ciph_setShifts_0 ⟨fun a => ⟨fun b => ?_, fun b => ?_⟩, fun a => ?_⟩)
  · rw [wid (x := i - 702) (by omega) (by omega), Int.tdiv_eq_ediv_of_nonneg (by omega), Int.tdiv_eq_ediv_of_nonneg (by omega), wid (x := (i - 702) / 676) (by omega) (by omega), wid (x := (i - 702) / 26) (by omega) (by omega), Int.tmod_eq_emod_of_nonneg (by omega), Int.tmod_eq_emod_of_nonneg (by omega)]
    have er : rnF i = 3 := by unfold rnF; rw [if_neg (by omega), if_neg (by omega)]
    refine q _ ((((Fr.rf.up (by simp)).up (by simp)).up (by simp)).up (by simp)) (fun k hk => by rw [up_nc (by decide), up_nc (by decide), up_nc (by decide), up_nk hk]) ⟨by rw [up_nc (by decide), up_nc (by decide), up_nc (by decide), up_same, er], fun j j0 j1 => ?_⟩
    rw [er] at j1
    unfold shS
    rw [if_neg (by omega), if_neg (by omega)]
    rcases (show j = 0 ∨ j = 1 ∨ j = 2 by omega) with rfl | rfl | rfl
    · rw [up_nk (by decide), up_nk (by decide), up_same, if_pos rfl]
    · rw [up_nk (by decide), up_same, if_neg (by decide), if_pos rfl]
    · rw [up_same, if_neg (by decide), if_neg (by decide)]
  · rw [wid (x := i - 26) (by omega) (by omega), Int.tdiv_eq_ediv_of_nonneg (by omega), wid (x := (i - 26) / 26) (by omega) (by omega), Int.tmod_eq_emod_of_nonneg (by omega)]
    have er : rnF i = 2 := by unfold rnF; rw [if_neg (by omega), if_pos (by omega)]
    refine q _ (((Fr.rf.up (by simp)).up (by simp)).up (by simp)) (fun k hk => by rw [up_nc (by decide), up_nc (by decide), up_nk hk]) ⟨by rw [up_nc (by decide), up_nc (by decide), up_same, er], fun j j0 j1 => ?_⟩
    rw [er] at j1
    unfold shS
    rw [if_neg (by omega), if_pos (by omega)]
    rcases (show j = 0 ∨ j = 1 by omega) with rfl | rfl
    · rw [up_nk (by decide), up_same, if_pos rfl]
    · rw [up_same, if_neg (by decide)]
  · have er : rnF i = 1 := by unfold rnF; rw [if_pos (by omega)]
    refine q _ ((Fr.rf.up (by simp)).up (by simp)) (fun k hk => by rw [up_nc (by decide), up_nk hk]) ⟨by rw [up_nc (by decide), up_same, er], fun j j0 j1 => ?_⟩
    rw [er] at j1
    unfold shS
    rw [if_pos (by omega), show j = 0 by omega, up_same]
/-- the place of a key's number, or none -/
def isKy (key i : Int) : Prop := (0 ≤ key ∧ key < 26 ∧ i = key) ∨ (100 ≤ key ∧ key < 776 ∧ i = key - 74) ∨ (1000 ≤ key ∧ key < 18576 ∧ i = key - 298)
def noKy (key : Int) : Prop := ¬ (0 ≤ key ∧ key < 26) ∧ ¬ (100 ≤ key ∧ key < 776) ∧ ¬ (1000 ≤ key ∧ key < 18576)
theorem s_turn {K : Int → Mem → Prop} {key : Int} (hd : 1 ≤ d) (k1 : ∀ (i : Int) (τ : Mem), isKy key i → (0 ≤ i ∧ i < 18278) → Fr [96, 99] σ τ → (∀ k, k ≠ 5 → τ 96 k = σ 96 k) → CSh τ i → K 1 τ) (k0 : noKy key → K 0 σ) : CI E y_Ciph_turn d [vr 96, vi key] σ K := by
  have c43 : ¬ (0 ≤ key ∧ key < 26) → ¬ (100 ≤ key ∧ key < 776) → Z E y_Ciph_turn d 43 [some (vr 96), some (vi key)] [] σ (qi K) := by
    intro h1 h2
    refine b_Ciph_turn_43 (by omega) ⟨fun a => k0 ⟨h1, h2, by omega⟩, fun a => ⟨fun b => k0 ⟨h1, h2, by omega⟩, fun b => ?_⟩⟩
    rw [wid (x := 702 + key) (by omega) (by omega), wid (by omega) (by omega)]
    exact s_setShifts (by omega) (fun τ hF hk hC => k1 _ τ (Or.inr (Or.inr ⟨a, b, by omega⟩)) (by omega) hF hk hC)
  have c17 : ¬ (0 ≤ key ∧ key < 26) → Z E y_Ciph_turn d 17 [some (vr 96), some (vi key)] [] σ (qi K) := by
    intro h1
    refine b_Ciph_turn_17 (by omega) ⟨fun a => c43 h1 (by omega), fun a => ⟨fun b => c43 h1 (by omega), fun b => ?_⟩⟩
    rw [wid (x := 26 + key) (by omega) (by omega), wid (by omega) (by omega)]
    exact s_setShifts (by omega) (fun τ hF hk hC => k1 _ τ (Or.inr (Or.inl ⟨a, b, by omega⟩)) (by omega) hF hk hC)
  refine c_Ciph_turn (b_Ciph_turn_0 (by omega) ⟨fun a => c17 (by omega), fun a => ⟨fun b => c17 (by omega), fun b => ?_⟩⟩)
  exact s_setShifts (by omega) (fun τ hF hk hC => k1 _ τ (Or.inl ⟨a, b, rfl⟩) (by omega) hF hk hC)
/-- the class takes a tray as a CIPHER -/
def okC (σ : Mem) (t : Int) : Int → Prop := fun n => ∀ p : Int, 0 ≤ p → p < n → 0 ≤ σ 132 (40 * t + p) ∧ σ 132 (40 * t + p) ≤ 25
theorem s_load {K : Int → Mem → Prop} {u : Int} (hd : 1 ≤ d) (hu : 0 ≤ u ∧ u < 4) (hR : Tr σ u) (k4 : σ 131 u < 1 → K (-4) σ) (k3 : 1 ≤ σ 131 u → ¬ okC σ u (σ 131 u) → ∀ τ, Fr [97] σ τ → K (-3) τ) (k0 : 1 ≤ σ 131 u → okC σ u (σ 131 u) → ∀ τ, Fr [96, 97] σ τ → (∀ k, k ≠ 2 → τ 96 k = σ 96 k) → CTx τ (fun p => σ 132 (40 * u + p)) (σ 131 u) → K 0 τ) : CI E y_Ciph_load d [vr 96, vr (102 + 2 * u.toNat)] σ K := by
  have htr := trN (n := u.toNat) (by omega)
  obtain ⟨r1, r2, r3, r4, r5⟩ := hR
  rw [r3] at k4 k3 k0
  have loop : ∀ (m : Nat) (j : Int) (τ : Mem), 0 ≤ j → j + m = σ (102 + 2 * u.toNat) 1 → 1 ≤ σ (102 + 2 * u.toNat) 1 → Fr [97] σ τ → (∀ k : Int, 0 ≤ k → k < j → τ 97 k = σ 132 (40 * u + k) ∧ (0 ≤ σ 132 (40 * u + k) ∧ σ 132 (40 * u + k) ≤ 25)) → Z E y_Ciph_load d 22 [some (vr 96), some (vr (102 + 2 * u.toNat)), some (vi j)] [] τ (qi K) := by
    intro m
    induction m with
    | zero =>
      intro j τ j0 hj h1 hF h
      have e1 : τ (102 + 2 * u.toNat) = σ (102 + 2 * u.toNat) := hF.one (by omega)
      have fin : K 0 (up τ 96 2 (τ (102 + 2 * u.toNat) 1)) := by
        rw [e1]
        refine k0 h1 (fun p p0 p1 => (h p p0 (by omega)).2) _ ((hF.wk (by simp)).up (by simp)) (fun k hk => by rw [up_nk hk, hF.one (by decide)]) ⟨up_same _ _ _ _, by omega, fun p p0 p1 => ?_⟩
        rw [up_nc (by decide)]; exact h p p0 (by omega)
      exact b_Ciph_load_22 htr hd ⟨fun _ => fin, fun z => absurd z (by rw [e1]; omega)⟩
    | succ m ih =>
      intro j τ j0 hj h1 hF h
      have e1 : τ (102 + 2 * u.toNat) = σ (102 + 2 * u.toNat) := hF.one (by omega)
      have e2 : τ (103 + 2 * u.toNat) j = σ 132 (40 * u + j) := by rw [hF.one (by omega)]; exact r5 j j0 (by omega)
      refine b_Ciph_load_22 htr hd ⟨fun z => absurd z (by rw [e1]; omega), fun _ => ⟨fun z => absurd z (by omega), fun _ => s_Tray_at hu (by rw [e1]; exact r4.2) (by rw [e1]; omega) ?_⟩⟩
      rw [e2, lcm_lt, lcm_ge]
      refine ⟨fun z => k3 h1 (fun w => by have := w j j0 (by omega); omega) τ hF, fun z => s_Tray_at hu (by rw [e1]; exact r4.2) (by rw [e1]; omega) ?_⟩
      rw [e2, lcm_lt, lcm_ge]
      refine ⟨fun y => s_Tray_at hu (by rw [e1]; exact r4.2) (by rw [e1]; omega) ⟨by omega, ?_⟩, fun y => k3 h1 (fun w => by have := w j j0 (by omega); omega) τ hF⟩
      rw [e2, wid (x := j + 1) (by omega) (by omega), wid (x := σ 132 (40 * u + j)) (by omega) (by omega)]
      refine ih (j + 1) _ (by omega) (by omega) h1 (hF.up (by simp)) (fun k a b => ?_)
      by_cases w : k = j
      · subst w; rw [up_same]; exact ⟨rfl, by omega⟩
      · rw [up_nk w]; exact h k a (by omega)
  refine c_Ciph_load (b_Ciph_load_0 htr ⟨fun a => k4 a, fun a => ⟨fun b => ?_, fun b => absurd b (by omega)⟩⟩)
  exact loop (σ (102 + 2 * u.toNat) 1).toNat 0 σ (by omega) (by omega) a Fr.rf (fun k a b => absurd b (by omega))
end
