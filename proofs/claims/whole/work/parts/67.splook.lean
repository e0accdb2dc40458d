/-! look: the reference -/
theorem lkS_0 {P : Int → Prop} (h : ∀ x, ¬ P x) : ∀ n : Nat, lkS P n = (-1, 0)
  | 0 => rfl
  | n + 1 => by
    have u : unF P n = 0 := by
      unfold unF
      have : sm (fun c => @ite _ (∃ x : Int, P x ∧ shS x ((n : Int) % rnF x) = c) (Classical.propDecidable _) (1 : Int) 0) 26 = sm (fun _ => 0) 26 := sm_cg 26 (fun c _ _ => if_neg (fun ⟨x, hx, _⟩ => h x hx))
      rw [this]; decide
    simp only [lkS]
    rw [lkS_0 h n, u]; rfl
/-- letters made plain by the keys that fit, as bits: of the first k keys -/
def MB (τ : Mem) (t : Int → Int) (P : Int → Prop) (n k : Int) : Prop := ∀ i c : Int, 0 ≤ i → i < n → 0 ≤ c → c < 26 → (bt (τ 129 i) c = 1 ↔ ∃ x : Int, x < k ∧ P x ∧ plF t x i = c)
theorem sp40 : SP40 II := by
  intro E σ u hI hR hu
  have hT := hI.1
  refine c_BC_look (b_BC_look_0 (by omega) (ci_start hI (by omega) (fun hne τ hF => ⟨fun z => absurd z hne, fun _ => c_Mod_look (b_Mod_look_0 (by omega) (ci_model hI hF (by omega) ⟨fun z => absurd z hne, fun _ => ⟨rfl, (hI.ci hF).thr⟩⟩))⟩) (fun he τ hF hC hN => ⟨fun _ => ?_, fun z => absurd rfl z⟩)))
  obtain ⟨hu4, hr, hn1, hok⟩ := cdF_0 hI.2.2.2.2.2.1 he
  have r4 := hr.2.2.2.1
  have r3 := hr.2.2.1
  refine s_findKeys (by omega) hC hN (fun τ2 hF2 hk2 hB => ?_)
  have hC2 : CTx τ2 (fun p => σ 132 (40 * u + p)) (σ 131 u) := ⟨by rw [hk2 2 (by decide)]; exact hC.1, hC.2.1, fun p a b => by rw [hF2 97 (by decide)]; exact hC.2.2 p a b⟩
  refine s_mostUnlike (by omega) hC2 hB (fun τ3 hF3 => ?_)
  have hFF : Fr ciS σ τ3 := (hF.tr (hF2.wk (by decide))).tr (hF3.wk (by decide))
  generalize hPd : fitI (fun p => σ 132 (40 * u + p)) (fun m => σ 116 (19 + m)) (σ 116 6) (σ 131 u) = P
  refine c_Mod_look (b_Mod_look_0 (by omega) (ci_model hI hFF (by omega) ?_))
  rw [he]
  refine ⟨fun _ => ?_, fun z => absurd rfl z⟩
  generalize hM : up τ3 115 0 0 = M
  have hIM : II M := by rw [← hM]; exact (hI.ci hFF).thr
  have g : ∀ c, c ∉ ciS → c ≠ 115 → M c = σ c := fun c a b => by rw [← hM, up_cell b, hFF c a]
  have kmd : ∀ τ, Fr [115, 128, 129] M τ → keep [39] M τ → II τ := fun τ hF hK => hIM.same (hF.wk (by decide)) (fun k hk => hK k (by simp at hk ⊢; omega))
  -- the last loop: the first place of most letters
  have last : ∀ (m i : Nat) (τ : Mem) (a3 : Int) (o2 o7 o8 : Option AV), (i : Int) + m = σ 131 u → Fr [115, 128, 129] M τ → keep [39] M τ → (a3 = 0 → ∀ x, ¬ P x) → MB τ (fun p => σ 132 (40 * u + p)) P (σ 131 u) 18278 → Z E y_Mod_look 400 129 [some (vr 115), some (vi u), o2, some (vi a3), some (vi (lkS P i).1), some (vi (lkS P i).2), some (vi (i : Int)), o7, o8] [] τ (qi fun y υ => (lkS P (σ 131 u).toNat).1 = y ∧ II υ) := by
    intro m
    induction m with
    | zero =>
      intro i τ a3 o2 o7 o8 hi hF4 hK4 h3 hB4
      have m131 : τ 131 = σ 131 := by rw [hF4 131 (by decide), g 131 (by decide) (by decide)]
      refine b_Mod_look_129 ⟨hu4, fun _ => ⟨by rw [show i = (σ 131 u).toNat by omega], kmd τ hF4 hK4⟩, fun z => absurd z (by rw [m131]; omega)⟩
    | succ m ih =>
      intro i τ a3 o2 o7 o8 hi hF4 hK4 h3 hB4
      have m131 : τ 131 = σ 131 := by rw [hF4 131 (by decide), g 131 (by decide) (by decide)]
      refine b_Mod_look_129 ⟨hu4, fun z => absurd z (by rw [m131]; omega), fun _ => ⟨fun z => ⟨?_, kmd τ hF4 hK4⟩, fun z => ?_⟩⟩
      · rw [lkS_0 (h3 z), lkS_0 (h3 z)]
      · have un : sm (fun c => bt (τ 129 i) c) 26 = unF P i := by
          rw [← hPd]
          refine un_mod (t := fun p => σ 132 (40 * u + p)) (i := (i : Int)) (hok i (by omega) (by omega)) (fun c c0 c1 => ?_)
          have := hB4 i c (by omega) (by omega) c0 c1
          rw [this, ← hPd]
          exact ⟨fun ⟨x, _, b⟩ => ⟨x, b⟩, fun ⟨x, b⟩ => ⟨x, b.1.1.2, b⟩⟩
        have cnt : ∀ (m2 c : Nat), c + m2 = 26 → Z E y_Mod_look 400 150 [some (vr 115), some (vi u), o2, some (vi a3), some (vi (lkS P i).1), some (vi (lkS P i).2), some (vi (i : Int)), some (vi (sm (fun c => bt (τ 129 i) c) c)), some (vi (c : Int))] [] τ (qi fun y υ => (lkS P (σ 131 u).toNat).1 = y ∧ II υ) := by
          intro m2
          induction m2 with
          | zero =>
            intro c hc
            rw [show c = 26 by omega, un]
            have nx := fun o7 o8 => ih (i + 1) τ a3 o2 o7 o8 (by omega) hF4 hK4 h3 hB4
            simp only [lkS] at nx
            refine b_Mod_look_150 ⟨fun _ => ?_, fun w => absurd w (by decide)⟩
            rw [wid (x := (i : Int) + 1) (by omega) (by omega)]
            refine ⟨fun w => ?_, fun w => ?_⟩
            · have := nx (some (vi (unF P i))) (some (vi ((26 : Nat) : Int)))
              rw [if_pos w] at this; exact this
            · have := nx (some (vi (unF P i))) (some (vi ((26 : Nat) : Int)))
              rw [if_neg (by omega)] at this; exact this
          | succ m2 ih2 =>
            intro c hc
            have sb := sm_01 (f := fun c => bt (τ 129 i) c) (fun c => bt_01 _ _) c
            have b1 := bt_01 (τ 129 i) c
            refine b_Mod_look_150 ⟨fun w => absurd w (by omega), fun _ => ?_⟩
            rw [bit_eqU (by omega), wid (x := (c : Int) + 1) (by omega) (by omega), wid (x := sm (fun c => bt (τ 129 i) c) c + bt (τ 129 i) c) (by omega) (by omega)]
            exact ⟨by omega, ih2 (c + 1) (by omega)⟩
        exact cnt 26 0 (by omega)
  -- all keys, one after the other
  have keysL : ∀ (m k : Nat) (τ : Mem) (a3 : Int) (o2 o5 o6 o7 o8 : Option AV), k + m = 18278 → Fr [115, 128, 129] M τ → keep [39] M τ → (a3 = 0 → ∀ x : Int, x < k → ¬ P x) → MB τ (fun p => σ 132 (40 * u + p)) P (σ 131 u) k → Z E y_Mod_look 400 46 [some (vr 115), some (vi u), o2, some (vi a3), some (vi (k : Int)), o5, o6, o7, o8] [] τ (qi fun y υ => (lkS P (σ 131 u).toNat).1 = y ∧ II υ) := by
    intro m
    induction m with
    | zero =>
      intro k τ a3 o2 o5 o6 o7 o8 hk hF4 hK4 h3 hB4
      rw [show k = 18278 by omega] at h3 hB4 ⊢
      refine b_Mod_look_46 (by omega) ⟨fun _ => last (σ 131 u).toNat 0 τ a3 _ _ _ (by omega) hF4 hK4 (fun z x hx => ?_) hB4, fun z => absurd z (by omega)⟩
      have := h3 z x (by rw [← hPd] at hx; have := hx.1; omega)
      exact this hx
    | succ m ih =>
      intro k τ a3 o2 o5 o6 o7 o8 hk hF4 hK4 h3 hB4
      have m131 : τ 131 = σ 131 := by rw [hF4 131 (by decide), g 131 (by decide) (by decide)]
      have m132 : τ 132 = σ 132 := by rw [hF4 132 (by decide), g 132 (by decide) (by decide)]
      have m6 : τ 116 = σ 116 := by rw [hF4 116 (by decide), g 116 (by decide) (by decide)]
      refine b_Mod_look_46 (by omega) ⟨fun z => absurd z (by omega), fun _ => t_laysKey (by omega) (fun τ4 hF5 hK5 hS5 => fitM (by omega) (by omega) hu4 hT m6 (by rw [m131]; omega) (by unfold okC at hok ⊢; rw [m131, m132]; exact hok) (fun τ5 hF6 hK6 hS6 hfit y hy => ⟨fun _ => ?_, fun z => absurd z hy⟩) (fun τ5 hF6 hK6 hnf => ⟨fun z => absurd rfl z, fun _ => ?_⟩) τ4 hF5 hK5 hS5)⟩
      · rw [m131, m132, hPd] at hfit
        have hF7 : Fr [115, 128, 129] M τ5 := hF4.tr (hF6.wk (by decide))
        have hK7 : keep [39] M τ5 := hK4.tr hK6
        have e129 : τ5 129 = τ 129 := hF6 129 (by decide)
        have inner : ∀ (m2 : Nat) (i : Int) (τ6 : Mem) (o2 o6 o7 o8 : Option AV), 0 ≤ i → i + m2 = σ 131 u → Fr [129] τ5 τ6 → (∀ p c : Int, 0 ≤ p → p < σ 131 u → 0 ≤ c → c < 26 → (bt (τ6 129 p) c = 1 ↔ (∃ x : Int, x < k ∧ P x ∧ plF (fun p => σ 132 (40 * u + p)) x p = c) ∨ (p < i ∧ plF (fun p => σ 132 (40 * u + p)) k p = c))) → Z E y_Mod_look 400 78 [some (vr 115), some (vi u), o2, some (vi 1), some (vi (k : Int)), some (vi i), o6, o7, o8] [] τ6 (qi fun y υ => (lkS P (σ 131 u).toNat).1 = y ∧ II υ) := by
          intro m2
          induction m2 with
          | zero =>
            intro i τ6 o2 o6 o7 o8 i0 hi hF8 hB8
            have n131 : τ6 131 = σ 131 := by rw [hF8.one (by decide), hF7 131 (by decide), g 131 (by decide) (by decide)]
            refine b_Mod_look_78 (by omega) ⟨hu4, fun _ => ?_, fun z => absurd z (by rw [n131]; omega)⟩
            rw [wid (x := (k : Int) + 1) (by omega) (by omega)]
            refine ih (k + 1) τ6 1 _ _ _ _ _ (by omega) (hF7.tr (hF8.wk (by decide))) (hK7.tr (keep.of (hF8.one (by decide)))) (fun z => absurd z (by decide)) (fun p c p0 p1 c0 c1 => ?_)
            rw [hB8 p c p0 p1 c0 c1]
            constructor
            · rintro (⟨x, a, b⟩ | ⟨a, b⟩)
              · exact ⟨x, by omega, b⟩
              · exact ⟨k, by omega, hfit, b⟩
            · rintro ⟨x, a, b⟩
              by_cases w : x = k
              · rw [w] at b; exact Or.inr ⟨by omega, b.2⟩
              · exact Or.inl ⟨x, by omega, b⟩
          | succ m2 ih2 =>
            intro i τ6 o2 o6 o7 o8 i0 hi hF8 hB8
            have n131 : τ6 131 = σ 131 := by rw [hF8.one (by decide), hF7 131 (by decide), g 131 (by decide) (by decide)]
            have n132 : τ6 132 = σ 132 := by rw [hF8.one (by decide), hF7 132 (by decide), g 132 (by decide) (by decide)]
            have hS8 : MSh τ6 k := ⟨by rw [hF8.one (by decide)]; exact hS6.1, fun j a b => by rw [hF8.one (by decide)]; exact hS6.2 j a b⟩
            refine b_Mod_look_78 (by omega) ⟨hu4, fun z => absurd z (by rw [n131]; omega), fun _ => ⟨by omega, t_plainAt (by omega) hu4 hS8 (by omega) (by rw [n132]; exact hok i i0 (by omega)) ?_⟩⟩
            rw [n132, wid (x := i + 1) (by omega) (by omega)]
            refine ih2 (i + 1) _ _ _ _ _ (by omega) (by omega) (hF8.up (by simp)) (fun p c p0 p1 c0 c1 => ?_)
            have old := hB8 p c p0 p1 c0 c1
            have pb := plF_b (t := fun p => σ 132 (40 * u + p)) (i := (k : Int)) (p := i)
            by_cases w : p = i
            · subst w
              rw [up_same, bset (by omega) (by omega)]
              by_cases y : c = plF (fun p => σ 132 (40 * u + p)) k p
              · rw [if_pos y]; exact ⟨fun _ => Or.inr ⟨by omega, y.symm⟩, fun _ => rfl⟩
              · rw [if_neg y, old]
                exact or_congr Iff.rfl ⟨fun ⟨a, b⟩ => absurd a (by omega), fun ⟨_, b⟩ => absurd b.symm y⟩
            · rw [up_nk w, old]
              exact or_congr Iff.rfl (and_congr ⟨fun _ => by omega, fun _ => by omega⟩ Iff.rfl)
        refine inner (σ 131 u).toNat 0 τ5 _ _ _ _ (by omega) (by omega) Fr.rf (fun p c p0 p1 c0 c1 => ?_)
        rw [e129, hB4 p c p0 p1 c0 c1]
        exact ⟨fun w => Or.inl w, fun w => w.elim id (fun ⟨a, _⟩ => by omega)⟩
      · rw [m131, m132, hPd] at hnf
        rw [wid (x := (k : Int) + 1) (by omega) (by omega)]
        refine ih (k + 1) τ5 a3 _ _ _ _ _ (by omega) (hF4.tr (hF6.wk (by decide))) (hK4.tr hK6) (fun z x hx => ?_) (fun p c p0 p1 c0 c1 => ?_)
        · by_cases w : x = k
          · rw [w]; exact hnf
          · exact h3 z x (by omega)
        · rw [hF6 129 (by decide), hB4 p c p0 p1 c0 c1]
          refine ⟨fun ⟨x, a, b⟩ => ⟨x, by omega, b⟩, fun ⟨x, a, b⟩ => ⟨x, ?_, b⟩⟩
          by_cases w : x = k
          · rw [w] at b; exact absurd b.1 hnf
          · omega
  have clr : ∀ (m : Nat) (i : Int) (τ : Mem) (o2 o5 o6 o7 o8 : Option AV), 0 ≤ i → i + m = 40 → Fr [129] M τ → (∀ p : Int, 0 ≤ p → p < i → τ 129 p = 0) → Z E y_Mod_look 400 22 [some (vr 115), some (vi u), o2, some (vi 0), some (vi i), o5, o6, o7, o8] [] τ (qi fun y υ => (lkS P (σ 131 u).toNat).1 = y ∧ II υ) := by
    intro m
    induction m with
    | zero =>
      intro i τ o2 o5 o6 o7 o8 i0 hi hF4 hz
      refine b_Mod_look_22 ⟨fun _ => keysL 18278 0 τ 0 _ _ _ _ _ (by omega) (hF4.wk (by decide)) (keep.of (hF4.one (by decide))) (fun _ x hx hp => ?_) (fun p c p0 p1 c0 c1 => ?_), fun z => absurd z (by omega)⟩
      · rw [← hPd] at hp; have := hp.1; omega
      · rw [hz p p0 (by omega), bt0]
        refine ⟨fun w => absurd w (by decide), fun ⟨x, a, b, _⟩ => ?_⟩
        rw [← hPd] at b; have := b.1; omega
    | succ m ih =>
      intro i τ o2 o5 o6 o7 o8 i0 hi hF4 hz
      refine b_Mod_look_22 ⟨fun z => absurd z (by omega), fun _ => ?_⟩
      rw [wid (x := i + 1) (by omega) (by omega)]
      refine ⟨by omega, ih (i + 1) _ _ _ _ _ _ (by omega) (by omega) (hF4.up (by simp)) (fun p p0 p1 => ?_)⟩
      by_cases w : p = i
      · subst w; rw [up_same]
      · rw [up_nk w]; exact hz p p0 (by omega)
  exact clr 40 0 M _ _ _ _ _ (by omega) (by omega) Fr.rf (fun p a b => absurd b (by omega))
