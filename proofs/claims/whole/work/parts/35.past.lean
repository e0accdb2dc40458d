/-! DEEDS that can be UNDONE: both sides keep how things stood -/
def PastC (σ : Mem) (H n : Int) (F : Int → Int → Int) : Prop := (0 ≤ σ 52 1 ∧ σ 52 1 < 10) ∧ σ 52 2 = n ∧ (0 ≤ n ∧ n ≤ 10) ∧ ∀ i : Int, 0 ≤ i → i < n → ST σ (54 + ((σ 52 1 + i) % 10).toNat) H (F i)
def PastM (σ : Mem) (n : Int) (F : Int → Int → Int) : Prop := σ 116 84 = n ∧ ∀ i k : Int, 0 ≤ i → i < n → 0 ≤ k → k < 5 → σ 116 (85 + 5 * i + k) = F i k
def pshN (n : Int) : Int := if n = 10 then 10 else n + 1
def pshF (n : Int) (F : Int → Int → Int) (f : Int → Int) : Int → Int → Int := fun i => if n = 10 then (if i = 9 then f else F (i + 1)) else (if i = n then f else F i)
theorem PastC.fr {σ τ : Mem} {H n : Int} {F : Int → Int → Int} (h : PastC σ H n F) (e : ∀ c, 52 ≤ c → c ≤ 63 → c ≠ 53 → τ c = σ c) : PastC τ H n F := by
  unfold PastC at h ⊢
  rw [e 52 (by decide) (by decide) (by decide)]
  exact ⟨h.1, h.2.1, h.2.2.1, fun i i0 i1 => (h.2.2.2 i i0 i1).fr (fun k _ _ => by rw [e _ (by omega) (by omega) (by omega)]) (fun _ _ _ => rfl)⟩
theorem PastM.fr {σ τ : Mem} {n : Int} {F : Int → Int → Int} (h : PastM σ n F) (hn : n ≤ 10) (e : ∀ k, 84 ≤ k → k < 135 → τ 116 k = σ 116 k) : PastM τ n F :=
  ⟨by rw [e 84 (by decide) (by decide)]; exact h.1, fun i k i0 i1 k0 k1 => by rw [e _ (by omega) (by omega)]; exact h.2 i k i0 i1 k0 k1⟩
theorem PastOK.c {σ : Mem} (h : PastOK σ) : PastC σ (σ 116 2) (σ 52 2) (fun i k => σ 116 (85 + 5 * i + k)) := ⟨h.1, rfl, h.2.1, h.2.2.2⟩
theorem PastOK.m {σ : Mem} (h : PastOK σ) : PastM σ (σ 52 2) (fun i k => σ 116 (85 + 5 * i + k)) := ⟨h.2.2.1, fun _ _ _ _ _ _ => rfl⟩
theorem PastOK.of {σ : Mem} {n : Int} {F : Int → Int → Int} (h : PastC σ (σ 116 2) n F) (g : PastM σ n F) : PastOK σ := by
  obtain ⟨h1, h2, h3, h4⟩ := h
  refine ⟨h1, by omega, by rw [h2]; exact g.1, fun i i0 i1 => (h4 i i0 (by omega)).fr (fun _ _ _ => rfl) (fun k k0 k1 => g.2 i k i0 (by omega) k0 k1)⟩
theorem PastC.cg {σ : Mem} {H n : Int} {F F2 : Int → Int → Int} (h : PastC σ H n F) (e : ∀ i, 0 ≤ i → i < n → F2 i = F i) : PastC σ H n F2 :=
  ⟨h.1, h.2.1, h.2.2.1, fun i i0 i1 => by rw [e i i0 i1]; exact h.2.2.2 i i0 i1⟩
theorem PastM.cg {σ : Mem} {n : Int} {F F2 : Int → Int → Int} (h : PastM σ n F) (e : ∀ i, 0 ≤ i → i < n → F2 i = F i) : PastM σ n F2 :=
  ⟨h.1, fun i k i0 i1 k0 k1 => by rw [e i i0 i1]; exact h.2 i k i0 i1 k0 k1⟩
def pasC : List Nat := [52, 54, 55, 56, 57, 58, 59, 60, 61, 62, 63]
theorem kstg {n : Nat} (h : n < 10) : isStg (54 + n) := by
  rcases (show n = 0 ∨ n = 1 ∨ n = 2 ∨ n = 3 ∨ n = 4 ∨ n = 5 ∨ n = 6 ∨ n = 7 ∨ n = 8 ∨ n = 9 by omega) with rfl | rfl | rfl | rfl | rfl | rfl | rfl | rfl | rfl | rfl <;> simp [isStg]
theorem kpas {n : Nat} (h : n < 10) : 54 + n ∈ pasC := by
  rcases (show n = 0 ∨ n = 1 ∨ n = 2 ∨ n = 3 ∨ n = 4 ∨ n = 5 ∨ n = 6 ∨ n = 7 ∨ n = 8 ∨ n = 9 by omega) with rfl | rfl | rfl | rfl | rfl | rfl | rfl | rfl | rfl | rfl <;> decide
theorem stg50 : isStg 50 := Or.inl rfl
section
variable {E : EN} {d : Nat} {σ : Mem}
theorem s_Stg_become {K : Mem → Prop} {a b : Nat} (ha : isStg a) (hb : isStg b) (hne : a ≠ b) (q : ∀ τ : Mem, Fr [a] σ τ → (∀ k, 0 ≤ k → k < 5 → τ a k = σ b k) → K τ) : CV E y_Stg_become d [vr a, vr b] σ K := by
  refine c_Stg_become (b_Stg_become_0 ha hb (q _ ?_ ?_))
  · exact ((((Fr.rf.up (by simp)).up (by simp)).up (by simp)).up (by simp)).up (by simp)
  · intro k k0 k1
    have hn : b ≠ a := fun e => hne e.symm
    rcases (show k = 0 ∨ k = 1 ∨ k = 2 ∨ k = 3 ∨ k = 4 by omega) with rfl | rfl | rfl | rfl | rfl <;> simp [up, hn]
theorem s_Past_keep {K : Mem → Prop} {H n : Int} {F : Int → Int → Int} {f : Int → Int} (hd : 1 ≤ d) (hC : PastC σ H n F) (hS : ST σ 50 H f) (q : ∀ τ : Mem, Fr pasC σ τ → PastC τ H (pshN n) (pshF n F f) → K τ) : CV E y_Past_keep d [vr 52, vr 50] σ K := by
  obtain ⟨h1, h2, h3, h4⟩ := hC
  refine c_Past_keep (b_Past_keep_0 stg50 hd ?_)
  rw [wid (x := σ 52 1 + σ 52 2) (by omega) (by omega), Int.tmod_eq_emod_of_nonneg (by omega)]
  have hm : 0 ≤ (σ 52 1 + σ 52 2) % 10 ∧ (σ 52 1 + σ 52 2) % 10 < 10 := by omega
  refine ⟨hm, s_Stg_become (kstg (by omega)) stg50 (by omega) (fun τ hF hv => ?_)⟩
  have e52 : τ 52 = σ 52 := hF.one (by omega)
  have hF2 : Fr pasC σ τ := hF.wk (fun c hc => by simp at hc; subst hc; exact kpas (by omega))
  have new : ST τ (54 + ((σ 52 1 + σ 52 2) % 10).toNat) H f := hS.fr hv (fun _ _ _ => rfl)
  have old : ∀ i : Int, 0 ≤ i → i < n → (σ 52 1 + i) % 10 ≠ (σ 52 1 + σ 52 2) % 10 → ST τ (54 + ((σ 52 1 + i) % 10).toNat) H (F i) := by
    intro i i0 i1 hne
    refine (h4 i i0 i1).fr (fun k _ _ => ?_) (fun _ _ _ => rfl)
    rw [hF.one (by omega)]
  refine ⟨fun hge => q _ (hF2.up (by decide)) ?_, fun hlt => q _ (hF2.up (by decide)) ?_⟩
  · rw [e52] at hge ⊢
    have hn : n = 10 := by omega
    rw [wid (x := σ 52 1 + 1) (by omega) (by omega), Int.tmod_eq_emod_of_nonneg (by omega)]
    refine ⟨by rw [up_same]; omega, ?_, ?_, fun i i0 i1 => ?_⟩
    · rw [up_nk (by decide), e52]; unfold pshN; rw [if_pos hn]; omega
    · unfold pshN; rw [if_pos hn]; omega
    · unfold pshN at i1; rw [if_pos hn] at i1
      rw [up_same]
      unfold pshF
      rw [if_pos hn]
      have ei : ((σ 52 1 + 1) % 10 + i) % 10 = (σ 52 1 + (i + 1)) % 10 := by omega
      rw [ei]
      by_cases e : i = 9
      · rw [if_pos e]
        have ej : (σ 52 1 + (i + 1)) % 10 = (σ 52 1 + σ 52 2) % 10 := by omega
        rw [ej]
        exact new.fr (fun k _ _ => by rw [up_nc (by omega)]) (fun _ _ _ => rfl)
      · rw [if_neg e]
        exact (old (i + 1) (by omega) (by omega) (by omega)).fr (fun k _ _ => by rw [up_nc (by omega)]) (fun _ _ _ => rfl)
  · rw [e52] at hlt ⊢
    have hn : ¬ n = 10 := by omega
    rw [wid (x := σ 52 2 + 1) (by omega) (by omega)]
    refine ⟨by rw [up_nk (by decide), e52]; exact h1, ?_, ?_, fun i i0 i1 => ?_⟩
    · rw [up_same]; unfold pshN; rw [if_neg hn]; omega
    · unfold pshN; rw [if_neg hn]; omega
    · unfold pshN at i1; rw [if_neg hn] at i1
      rw [up_nk (by decide), e52]
      unfold pshF
      rw [if_neg hn]
      by_cases e : i = n
      · rw [if_pos e]
        have ej : (σ 52 1 + i) % 10 = (σ 52 1 + σ 52 2) % 10 := by omega
        rw [ej]
        exact new.fr (fun k _ _ => by rw [up_nc (by omega)]) (fun _ _ _ => rfl)
      · rw [if_neg e]
        exact (old i i0 (by omega) (by omega)).fr (fun k _ _ => by rw [up_nc (by omega)]) (fun _ _ _ => rfl)
theorem s_keeps {K : Mem → Prop} (q : ∀ τ : Mem, Fr [126] σ τ → (∀ k : Int, 0 ≤ k → k < 5 → τ 126 k = σ 116 (79 + k)) → K τ) : CV E y_Mod_keeps d [vr 115] σ K := by
  have loop : ∀ (m : Nat) (i : Int) (τ : Mem), 0 ≤ i → i + m = 5 → Fr [126] σ τ → (∀ k : Int, 0 ≤ k → k < i → τ 126 k = σ 116 (79 + k)) → Z E y_Mod_keeps d 2 [some (vr 115), some (vi i)] [] τ (qv K) := by
    intro m
    induction m with
    | zero => exact fun i τ h0 hi hF hv => b_Mod_keeps_2 ⟨fun _ => q τ hF (fun k k0 k1 => hv k k0 (by omega)), fun z => absurd z (by omega)⟩
    | succ m ih =>
      intro i τ h0 hi hF hv
      refine b_Mod_keeps_2 ⟨fun z => absurd z (by omega), fun _ => ?_⟩
      rw [wid (x := 79 + i) (by omega) (by omega), wid (x := i + 1) (by omega) (by omega)]
      refine ⟨by omega, by omega, ih (i + 1) _ (by omega) (by omega) (hF.up (by simp)) (fun k k0 k1 => ?_)⟩
      by_cases e : k = i
      · subst e; rw [up_same, hF.one (by decide)]
      · rw [up_nk e]; exact hv k k0 (by omega)
  exact c_Mod_keeps (b_Mod_keeps_0 (loop 5 0 σ (by omega) (by omega) Fr.rf (fun k k0 k1 => absurd k1 (by omega))))
theorem s_isAgain {K : Mem → Prop} (q : ∀ τ : Mem, Fr [116] σ τ → (∀ k : Int, 0 ≤ k → k < 5 → τ 116 (79 + k) = σ 126 k) → (∀ k : Int, ¬ (79 ≤ k ∧ k < 84) → τ 116 k = σ 116 k) → K τ) : CV E y_Mod_isAgain d [vr 115] σ K := by
  have loop : ∀ (m : Nat) (i : Int) (τ : Mem), 0 ≤ i → i + m = 5 → Fr [116] σ τ → (∀ k : Int, 0 ≤ k → k < i → τ 116 (79 + k) = σ 126 k) → (∀ k : Int, ¬ (79 ≤ k ∧ k < 84) → τ 116 k = σ 116 k) → Z E y_Mod_isAgain d 2 [some (vr 115), some (vi i)] [] τ (qv K) := by
    intro m
    induction m with
    | zero => exact fun i τ h0 hi hF hv ho => b_Mod_isAgain_2 ⟨fun _ => q τ hF (fun k k0 k1 => hv k k0 (by omega)) ho, fun z => absurd z (by omega)⟩
    | succ m ih =>
      intro i τ h0 hi hF hv ho
      refine b_Mod_isAgain_2 ⟨fun z => absurd z (by omega), fun _ => ?_⟩
      rw [wid (x := 79 + i) (by omega) (by omega), wid (x := i + 1) (by omega) (by omega)]
      refine ⟨by omega, by omega, ih (i + 1) _ (by omega) (by omega) (hF.up (by simp)) (fun k k0 k1 => ?_) (fun k hk => ?_)⟩
      · by_cases e : k = i
        · subst e; rw [up_same, hF.one (by decide)]
        · rw [up_nk (by omega)]; exact hv k k0 (by omega)
      · rw [up_nk (by omega)]; exact ho k hk
  exact c_Mod_isAgain (b_Mod_isAgain_0 (loop 5 0 σ (by omega) (by omega) Fr.rf (fun k k0 k1 => absurd k1 (by omega)) (fun _ _ => rfl)))
theorem s_notesB {K : Mem → Prop} {n : Int} (hn : 0 ≤ n ∧ n ≤ 9) (h84 : σ 116 84 = n) (q : ∀ τ : Mem, Fr [116] σ τ → τ 116 84 = n + 1 → (∀ j : Int, 0 ≤ j → j < 5 → τ 116 (85 + 5 * n + j) = σ 126 j) → (∀ k : Int, k ≠ 84 → ¬ (85 + 5 * n ≤ k ∧ k < 90 + 5 * n) → τ 116 k = σ 116 k) → K τ) : Z E y_Mod_notes d 57 [some (vr 115), some (vi 0)] [] σ (qv K) := by
  have loop : ∀ (m : Nat) (i : Int) (τ : Mem), 0 ≤ i → i + m = 5 → Fr [116] σ τ → (∀ j : Int, 0 ≤ j → j < i → τ 116 (85 + 5 * n + j) = σ 126 j) → (∀ k : Int, ¬ (85 + 5 * n ≤ k ∧ k < 90 + 5 * n) → τ 116 k = σ 116 k) → Z E y_Mod_notes d 57 [some (vr 115), some (vi i)] [] τ (qv K) := by
    intro m
    induction m with
    | zero =>
      intro i τ h0 hi hF hv ho
      have t84 : τ 116 84 = n := by rw [ho 84 (by omega)]; exact h84
      refine b_Mod_notes_57 ⟨fun _ => ?_, fun z => absurd z (by omega)⟩
      rw [t84, wid (by omega) (by omega)]
      refine q _ (hF.up (by simp)) (up_same _ _ _ _) (fun j j0 j1 => ?_) (fun k k1 k2 => ?_)
      · rw [up_nk (by omega)]; exact hv j j0 (by omega)
      · rw [up_nk k1]; exact ho k k2
    | succ m ih =>
      intro i τ h0 hi hF hv ho
      have t84 : τ 116 84 = n := by rw [ho 84 (by omega)]; exact h84
      refine b_Mod_notes_57 ⟨fun z => absurd z (by omega), fun _ => ?_⟩
      rw [t84, wid (x := 5 * n) (by omega) (by omega), wid (x := 85 + 5 * n) (by omega) (by omega), wid (x := 85 + 5 * n + i) (by omega) (by omega), wid (x := i + 1) (by omega) (by omega)]
      refine ⟨by omega, by omega, ih (i + 1) _ (by omega) (by omega) (hF.up (by simp)) (fun k k0 k1 => ?_) (fun k hk => ?_)⟩
      · by_cases e : k = i
        · subst e; rw [up_same, hF.one (by decide)]
        · rw [up_nk (by omega)]; exact hv k k0 (by omega)
      · rw [up_nk (by omega)]; exact ho k hk
  exact loop 5 0 σ (by omega) (by omega) Fr.rf (fun k k0 k1 => absurd k1 (by omega)) (fun _ _ => rfl)
theorem s_notes {K : Mem → Prop} {n : Int} {F : Int → Int → Int} {f : Int → Int} (hn : 0 ≤ n ∧ n ≤ 10) (hM : PastM σ n F) (hf : ∀ k : Int, 0 ≤ k → k < 5 → σ 126 k = f k) (q : ∀ τ : Mem, Fr [116] σ τ → (∀ k : Int, ¬ (84 ≤ k ∧ k < 135) → τ 116 k = σ 116 k) → PastM τ (pshN n) (pshF n F f) → K τ) : CV E y_Mod_notes d [vr 115] σ K := by
  obtain ⟨h1, h2⟩ := hM
  refine c_Mod_notes (b_Mod_notes_0 ⟨fun hne => ?_, fun he => ?_⟩)
  · have hn2 : ¬ n = 10 := by omega
    refine s_notesB (n := n) (by omega) h1 (fun τ hF e84 hv ho => q τ hF (fun k hk => ho k (by omega) (by omega)) ⟨?_, fun i k i0 i1 k0 k1 => ?_⟩)
    · unfold pshN; rw [if_neg hn2]; exact e84
    · unfold pshN at i1; rw [if_neg hn2] at i1
      unfold pshF; rw [if_neg hn2]
      by_cases e : i = n
      · rw [if_pos e, e, hv k k0 k1]; exact hf k k0 k1
      · rw [if_neg e, ho _ (by omega) (by omega)]; exact h2 i k i0 (by omega) k0 k1
  · have hn2 : n = 10 := by omega
    have loop : ∀ (m : Nat) (i : Int) (τ : Mem), 0 ≤ i → i + m = 45 → Fr [116] σ τ → (∀ j : Int, 0 ≤ j → j < i → τ 116 (85 + j) = σ 116 (90 + j)) → (∀ k : Int, ¬ (85 ≤ k ∧ k < 85 + i) → τ 116 k = σ 116 k) → Z E y_Mod_notes d 14 [some (vr 115), some (vi i)] [] τ (qv K) := by
      intro m
      induction m with
      | zero =>
        intro i τ h0 hi hF hv ho
        refine b_Mod_notes_14 ⟨fun _ => ?_, fun z => absurd z (by omega)⟩
        have t84 : τ 116 84 = 10 := by rw [ho 84 (by omega)]; omega
        rw [t84, wid (by omega) (by omega)]
        refine s_notesB (n := 9) (by omega) (up_same _ _ _ _) (fun υ hU e84 hw hp => q υ ((hF.up (by simp)).tr hU) (fun k hk => ?_) ⟨?_, fun i2 k i0 i1 k0 k1 => ?_⟩)
        · rw [hp k (by omega) (by omega), up_nk (by omega)]; exact ho k (by omega)
        · unfold pshN; rw [if_pos hn2]; exact e84
        · unfold pshN at i1; rw [if_pos hn2] at i1
          unfold pshF; rw [if_pos hn2]
          by_cases e : i2 = 9
          · rw [if_pos e, e, hw k k0 k1, up_nc (by decide), hF.one (by decide)]; exact hf k k0 k1
          · rw [if_neg e, hp _ (by omega) (by omega), up_nk (by omega), show 85 + 5 * i2 + k = 85 + (5 * i2 + k) by omega, hv _ (by omega) (by omega), show 90 + (5 * i2 + k) = 85 + 5 * (i2 + 1) + k by omega]
            exact h2 (i2 + 1) k (by omega) (by omega) k0 k1
      | succ m ih =>
        intro i τ h0 hi hF hv ho
        refine b_Mod_notes_14 ⟨fun z => absurd z (by omega), fun _ => ?_⟩
        rw [wid (x := 90 + i) (by omega) (by omega), wid (x := 85 + i) (by omega) (by omega), wid (x := i + 1) (by omega) (by omega)]
        refine ⟨by omega, by omega, ih (i + 1) _ (by omega) (by omega) (hF.up (by simp)) (fun k k0 k1 => ?_) (fun k hk => ?_)⟩
        · by_cases e : k = i
          · subst e; rw [up_same]; exact ho _ (by omega)
          · rw [up_nk (by omega)]; exact hv k k0 (by omega)
        · rw [up_nk (by omega)]; exact ho k (by omega)
    exact loop 45 0 σ (by omega) (by omega) Fr.rf (fun k k0 k1 => absurd k1 (by omega)) (fun _ _ => rfl)
end
/-- all that a deed may change -/
def dee : List Nat := 50 :: 52 :: 54 :: 55 :: 56 :: 57 :: 58 :: 59 :: 60 :: 61 :: 62 :: 63 :: 116 :: scrt
theorem II.deed {σ υ : Mem} {n : Int} {F : Int → Int → Int} (h : II σ) (hF : Fr dee σ υ) (hK : ∀ k, k ∈ [5, 13, 14, 33] → υ 115 k = σ 115 k) (hX : TX (σ 116) (υ 116)) (hB : ∀ k : Int, 1036 ≤ k → υ 116 k = σ 116 k) (hC : PastC υ (σ 116 2) n F) (hM : PastM υ n F) (hS : ST υ 50 (σ 116 2) (fun k => υ 116 (79 + k))) : II υ := by
  have e : ∀ c, c ∉ dee → υ c = σ c := hF
  have k5 := hK 5 (by decide)
  have k13 := hK 13 (by decide)
  have k14 := hK 14 (by decide)
  have k33 := hK 33 (by decide)
  have x2 := hX 2 (by omega) (by omega)
  obtain ⟨a, b, c, d, f, g, i, j, l, m⟩ := h
  have e26 : ∀ c, 26 ≤ c → c ≤ 49 → υ c = σ c := fun c c0 c1 => e c (by simp [dee, scrt]; omega)
  have e2 : ∀ c, 2 ≤ c → c ≤ 13 → υ c = σ c := fun c c0 c1 => e c (by simp [dee, scrt]; omega)
  have et : ∀ c, 102 ≤ c → c ≤ 109 → υ c = σ c := fun c c0 c1 => e c (by simp [dee, scrt]; omega)
  refine ⟨hX.mt a, (b.fr (fun c c0 c1 => e2 c (by omega) (by omega))).tx hX a, (c.fr (by rw [e2 2 (by omega) (by omega)]) (e2 _ (by omega) (by omega))).tx hX a, by rw [x2]; exact hS, PastOK.of (by rw [x2]; exact hC) hM, g.fr et (e _ (by decide)) (e _ (by decide)) (e _ (by decide)), i.fr e26 (e _ (by decide)) (e _ (by decide)) (e _ (by decide)) (e _ (by decide)) hB, ?_, (l.fr (e _ (by decide)) (e _ (by decide))).tx hX a, by rw [k33]; exact m⟩
  unfold TapeOK at j ⊢
  rw [e 0 (by decide), e 1 (by decide), e 118 (by decide), k5, k13, k14]; exact j
