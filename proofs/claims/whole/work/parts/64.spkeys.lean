/-! keys, keyAt: counted and found -/
/-- how many of the m places from k on hold -/
noncomputable def cnP (P : Int → Prop) (k : Int) : Nat → Int
  | 0 => 0
  | m + 1 => cnP P k m + @ite _ (P (k + m)) (Classical.propDecidable _) 1 0
theorem cnP_y {P : Int → Prop} {k : Int} {m : Nat} (h : P (k + m)) : cnP P k (m + 1) = cnP P k m + 1 := by simp only [cnP]; rw [if_pos h]
theorem cnP_n {P : Int → Prop} {k : Int} {m : Nat} (h : ¬ P (k + m)) : cnP P k (m + 1) = cnP P k m + 0 := by simp only [cnP]; rw [if_neg h]
theorem cnP_b {P : Int → Prop} {k : Int} : ∀ m : Nat, 0 ≤ cnP P k m ∧ cnP P k m ≤ m
  | 0 => by simp [cnP]
  | m + 1 => by
    have := cnP_b (P := P) (k := k) m
    simp only [cnP]; split <;> omega
theorem cnP_ad {P : Int → Prop} {k : Int} (m : Nat) : ∀ j : Nat, cnP P k (m + j) = cnP P k m + cnP P (k + m) j
  | 0 => by simp [cnP]
  | j + 1 => by
    have ih := cnP_ad (P := P) (k := k) m j
    show cnP P k (m + j) + @ite _ (P (k + ((m + j : Nat) : Int))) (Classical.propDecidable _) 1 0 = cnP P k m + (cnP P (k + m) j + @ite _ (P (k + m + j)) (Classical.propDecidable _) 1 0)
    rw [ih, show k + ((m + j : Nat) : Int) = k + m + j by omega, Int.add_assoc]
theorem cnP_0 {P : Int → Prop} {k : Int} : ∀ m : Nat, (∀ x, k ≤ x → x < k + m → ¬ P x) → cnP P k m = 0
  | 0, _ => rfl
  | m + 1, h => by
    simp only [cnP]
    rw [cnP_0 m (fun x a b => h x a (by omega)), if_neg (h (k + m) (by omega) (by omega))]; rfl
/-- the bits of a word, counted -/
theorem pc_cn {P : Int → Prop} {a k : Int} : ∀ m : Nat, (∀ j : Nat, j < m → (bt a j = 1 ↔ P (k + j))) → pcS a m = cnP P k m
  | 0, _ => rfl
  | m + 1, h => by
    simp only [pcS, cnP]
    rw [pc_cn m (fun j hj => h j (by omega))]
    by_cases e : P (k + m)
    · rw [if_pos e, (h m (by omega)).mpr e]
    · rw [if_neg e]
      rcases bt_01 a m with z | z
      · rw [z]
      · exact absurd ((h m (by omega)).mp z) e
section
variable {E : EN} {d : Nat} {σ : Mem} {t nm : Int → Int} {n L : Int}
theorem FB.w (h : FB σ t nm L n) {w : Nat} (hw : w < 572) : pcS (σ 98 w) 32 = cnP (fitI t nm L n) (32 * w) 32 := by
  refine pc_cn 32 (fun j hj => ?_)
  have := h (32 * w + j) (by omega) (by omega)
  unfold bX at this
  rw [show (32 * (w : Int) + j) / 32 = w by omega, show (32 * (w : Int) + j) % 32 = j by omega] at this
  exact this
theorem s_total {K : Int → Mem → Prop} (hd : 1 ≤ d) (h : FB σ t nm L n) (q : K (cnP (fitI t nm L n) 0 18278) σ) : CI E y_Ciph_total d [vr 96] σ K := by
  have loop : ∀ (m i : Nat), i + m = 572 → Z E y_Ciph_total d 4 [some (vr 96), some (vi (cnP (fitI t nm L n) 0 (32 * i))), some (vi (i : Int))] [] σ (qi K) := by
    intro m
    induction m with
    | zero =>
      intro i hi
      refine b_Ciph_total_4 hd ⟨fun _ => ?_, fun z => absurd z (by omega)⟩
      rw [show 32 * i = 18278 + 26 by omega, cnP_ad, cnP_0 (k := 0 + ((18278 : Nat) : Int)) 26 (fun x a b z => by have := z.1; omega), Int.add_zero]
      exact q
    | succ m ih =>
      intro i hi
      have cb := cnP_b (P := fitI t nm L n) (k := 0) (32 * i)
      have cb2 := cnP_b (P := fitI t nm L n) (k := 32 * (i : Int)) 32
      refine b_Ciph_total_4 hd ⟨fun z => absurd z (by omega), fun _ => ⟨by omega, s_bitCount ?_⟩⟩
      rw [bcE_eq, h.w (by omega), wid (x := (i : Int) + 1) (by omega) (by omega)]
      have := ih (i + 1) (by omega)
      rw [show 32 * (i + 1) = 32 * i + 32 by omega, cnP_ad, show (0 : Int) + ((32 * i : Nat) : Int) = 32 * (i : Int) by omega] at this
      rw [wid (by omega) (by omega)]
      exact this
  exact c_Ciph_total (b_Ciph_total_0 (loop 572 0 (by omega)))
end
/-- what the reference's key loop needs, of any state of its shifts -/
theorem fitM {E : EN} {d : Nat} {σ : Mem} {K : Int → Mem → Prop} {T : Int → Int} {u k : Int} (hd : 1 ≤ d) (hk : 0 ≤ k ∧ k < 18278) (hu : 0 ≤ u ∧ u < 4) (hT : MT T) (e6 : σ 116 = T) (hn : 1 ≤ σ 131 u ∧ σ 131 u ≤ 40) (ht : okC σ u (σ 131 u)) (k1 : ∀ τ, Fr [115, 128] σ τ → keep [39] σ τ → MSh τ k → fitI (fun p => σ 132 (40 * u + p)) (fun m => T (19 + m)) (T 6) (σ 131 u) k → ∀ x, x ≠ -1 → K x τ) (k0 : ∀ τ, Fr [115, 128] σ τ → keep [39] σ τ → ¬ fitI (fun p => σ 132 (40 * u + p)) (fun m => T (19 + m)) (T 6) (σ 131 u) k → K (-1) τ) : ∀ τ : Mem, Fr [115, 128] σ τ → keep [39] σ τ → MSh τ k → CI E y_Mod_placeOf d [vr 115, vi u] τ K := by
  intro τ hF hK hS
  have m6 : τ 116 = T := by rw [hF 116 (by decide), e6]
  have m131 : τ 131 = σ 131 := hF 131 (by decide)
  have m132 : τ 132 = σ 132 := hF 132 (by decide)
  refine t_placeOf hd hk hu hS (by rw [m6]; exact hT) (by rw [m131]; exact hn) (by unfold okC at ht ⊢; rw [m131, m132]; exact ht) ?_
  rw [m6, m131, m132]
  by_cases e : plcF (fun p => σ 132 (40 * u + p)) (fun m => T (19 + m)) (T 6) (σ 131 u) k = -1
  · rw [e]; exact k0 τ hF hK (fun z => z.2 e)
  · exact k1 τ hF hK hS ⟨hk, e⟩ _ e
/-- how a cipher's call begins, on both sides -/
theorem ci_start {E : EN} {σ : Mem} {u : Int} (hI : II σ) {KB : Int → Mem → Prop} {d : Nat} (hd : 2 ≤ d) (q1 : cdF σ u ≠ 0 → ∀ τ, Fr ciS σ τ → KB (cdF σ u) τ) (q0 : cdF σ u = 0 → ∀ τ, Fr ciS σ τ → CTx τ (fun p => σ 132 (40 * u + p)) (σ 131 u) → CNm τ (fun m => σ 116 (19 + m)) (σ 116 6) → KB 0 τ) : CI E y_BC_cipherCode d [vr 0, vi u] σ KB := by
  refine s_cipherCode hd hI.2.2.2.2.2.1 (fun hne τ hF => q1 hne τ (hF.wk (by decide))) (fun he τ hF _ hC => q0 he τ (hF.wk (by decide)) hC ((hI.2.1.nm hI.1).fr (hF 2 (by decide)) (hF 7 (by decide))))
theorem ci_model {E : EN} {σ τ : Mem} {u : Int} (hI : II σ) (hF : Fr ciS σ τ) {d : Nat} {K : Int → Mem → Prop} (hd : 2 ≤ d) (q : K (cdF σ u) (up τ 115 0 0)) : CI E y_Mod_noCipher d [vr 115, vi u] (up τ 115 0 0) K := by
  have g : ∀ c, c ∉ ciS → c ≠ 115 → up τ 115 0 0 c = σ c := fun c a b => by rw [up_cell b, hF c a]
  have e : cdF (up τ 115 0 0) u = cdF σ u := cdF_cg (g _ (by decide) (by decide)) (g _ (by decide) (by decide)) (g _ (by decide) (by decide))
  refine t_noCipher hd (hI.ci hF).thr.2.2.2.2.2.1 ?_
  rw [e]; exact q
theorem sp36 : SP36 II := by
  intro E σ u hI hR hu
  have hT := hI.1
  refine c_BC_keys (b_BC_keys_0 (by omega) (ci_start hI (by omega) (fun hne τ hF => ⟨fun z => absurd z hne, fun _ => c_Mod_keys (b_Mod_keys_0 (by omega) (ci_model hI hF (by omega) ⟨fun z => absurd z hne, fun _ => ⟨rfl, (hI.ci hF).thr⟩⟩))⟩) (fun he τ hF hC hN => ⟨fun _ => ?_, fun z => absurd rfl z⟩)))
  obtain ⟨hu4, hr, hn1, hok⟩ := cdF_0 hI.2.2.2.2.2.1 he
  have r4 := hr.2.2.2.1
  have r3 := hr.2.2.1
  refine s_findKeys (by omega) hC hN (fun τ2 hF2 _ hB => s_total (by omega) hB ?_)
  have hFF : Fr ciS σ τ2 := hF.tr (hF2.wk (by decide))
  refine c_Mod_keys (b_Mod_keys_0 (by omega) (ci_model hI hFF (by omega) ?_))
  rw [he]
  refine ⟨fun _ => ?_, fun z => absurd rfl z⟩
  generalize hM : up τ2 115 0 0 = M
  have hIM : II M := by rw [← hM]; exact (hI.ci hFF).thr
  have g : ∀ c, c ∉ ciS → c ≠ 115 → M c = σ c := fun c a b => by rw [← hM, up_cell b, hFF c a]
  have loop : ∀ (m i : Nat) (τ3 : Mem) (o2 : Option AV), i + m = 18278 → Fr [115, 128] M τ3 → keep [39] M τ3 → Z E y_Mod_keys 400 22 [some (vr 115), some (vi u), o2, some (vi (cnP (fitI (fun p => σ 132 (40 * u + p)) (fun m => σ 116 (19 + m)) (σ 116 6) (σ 131 u)) 0 i)), some (vi (i : Int))] [] τ3 (qi fun y υ => cnP (fitI (fun p => σ 132 (40 * u + p)) (fun m => σ 116 (19 + m)) (σ 116 6) (σ 131 u)) 0 18278 = y ∧ II υ) := by
    intro m
    induction m with
    | zero =>
      intro i τ3 o2 hi hF3 hK3
      refine b_Mod_keys_22 (by omega) ⟨fun _ => ⟨by rw [show i = 18278 by omega], hIM.km hF3 hK3⟩, fun z => absurd z (by omega)⟩
    | succ m ih =>
      intro i τ3 o2 hi hF3 hK3
      have m131 : τ3 131 = σ 131 := by rw [hF3 131 (by decide), g 131 (by decide) (by decide)]
      have m132 : τ3 132 = σ 132 := by rw [hF3 132 (by decide), g 132 (by decide) (by decide)]
      have m6 : τ3 116 = σ 116 := by rw [hF3 116 (by decide), g 116 (by decide) (by decide)]
      have cb := cnP_b (P := fitI (fun p => σ 132 (40 * u + p)) (fun m => σ 116 (19 + m)) (σ 116 6) (σ 131 u)) (k := 0) i
      refine b_Mod_keys_22 (by omega) ⟨fun z => absurd z (by omega), fun _ => t_laysKey (by omega) (fun τ4 hF4 hK4 hS4 => fitM (by omega) (by omega) hu4 hT m6 (by rw [m131]; omega) (by unfold okC at hok ⊢; rw [m131, m132]; exact hok) (fun τ5 hF5 hK5 _ hfit x hx => ⟨fun _ => ?_, fun z => absurd z hx⟩) (fun τ5 hF5 hK5 hnf => ⟨fun z => absurd rfl z, fun _ => ?_⟩) τ4 hF4 hK4 hS4)⟩
      · rw [m131, m132] at hfit
        have nx := ih (i + 1) τ5 none (by omega) (hF3.tr hF5) (hK3.tr hK5)
        rw [cnP_y (m := i) (by rw [Int.zero_add]; exact hfit)] at nx
        rw [wid (x := (i : Int) + 1) (by omega) (by omega), wid (by omega) (by omega)]
        exact nx
      · rw [m131, m132] at hnf
        have nx := ih (i + 1) τ5 none (by omega) (hF3.tr hF5) (hK3.tr hK5)
        rw [cnP_n (m := i) (by rw [Int.zero_add]; exact hnf)] at nx
        rw [wid (x := (i : Int) + 1) (by omega) (by omega), wid (by omega) (by omega)]
        exact nx
  exact loop 18278 0 M _ (by omega) Fr.rf keep.rf
