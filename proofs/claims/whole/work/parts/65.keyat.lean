/-! keyAt -/
noncomputable def nthP (P : Int → Prop) : Nat → Int → Int → Int
  | 0, _, _ => -1
  | m + 1, k, l => @ite _ (P k) (Classical.propDecidable _) (if l = 0 then k else nthP P m (k + 1) (l - 1)) (nthP P m (k + 1) l)
theorem nthP_n {P : Int → Prop} {m : Nat} {k l : Int} (h : ¬ P k) : nthP P (m + 1) k l = nthP P m (k + 1) l := by simp only [nthP]; rw [if_neg h]
theorem nthP_z {P : Int → Prop} {m : Nat} {k : Int} (h : P k) : nthP P (m + 1) k 0 = k := by simp only [nthP]; rw [if_pos h, if_pos trivial]
theorem nthP_y {P : Int → Prop} {m : Nat} {k l : Int} (h : P k) (hl : l ≠ 0) : nthP P (m + 1) k l = nthP P m (k + 1) (l - 1) := by simp only [nthP]; rw [if_pos h, if_neg hl]
theorem cnP_f {P : Int → Prop} {k : Int} (m : Nat) : cnP P k (m + 1) = @ite _ (P k) (Classical.propDecidable _) 1 0 + cnP P (k + 1) m := by
  have := cnP_ad (P := P) (k := k) 1 m
  rw [show 1 + m = m + 1 by omega] at this
  have e1 : cnP P k 1 = @ite _ (P k) (Classical.propDecidable _) 1 0 := by
    show 0 + @ite _ (P (k + ((0 : Nat) : Int))) (Classical.propDecidable _) 1 0 = _
    rw [show k + ((0 : Nat) : Int) = k by omega, Int.zero_add]
  rw [this, e1]; rfl
theorem nthP_ge {P : Int → Prop} : ∀ (m : Nat) (k l : Int), 0 ≤ l → cnP P k m ≤ l → nthP P m k l = -1
  | 0, _, _, _, _ => rfl
  | m + 1, k, l, l0, h => by
    have cb := cnP_b (P := P) (k := k + 1) m
    rw [cnP_f] at h
    by_cases e : P k
    · rw [if_pos e] at h
      rw [nthP_y e (by omega)]; exact nthP_ge m (k + 1) (l - 1) (by omega) (by omega)
    · rw [if_neg e] at h
      rw [nthP_n e]; exact nthP_ge m (k + 1) l l0 (by omega)
theorem nthP_lt {P : Int → Prop} : ∀ (m : Nat) (k l : Int), 0 ≤ l → l < cnP P k m → k ≤ nthP P m k l ∧ nthP P m k l < k + m
  | 0, k, l, l0, h => by simp [cnP] at h; omega
  | m + 1, k, l, l0, h => by
    rw [cnP_f] at h
    by_cases e : P k
    · rw [if_pos e] at h
      by_cases z : l = 0
      · subst z; rw [nthP_z e]; omega
      · rw [nthP_y e z]; have := nthP_lt (P := P) m (k + 1) (l - 1) (by omega) (by omega); omega
    · rw [if_neg e] at h
      rw [nthP_n e]; have := nthP_lt (P := P) m (k + 1) l l0 (by omega); omega
theorem nthP_sp {P : Int → Prop} (b : Nat) : ∀ (a : Nat) (k l : Int), 0 ≤ l → nthP P (a + b) k l = if l < cnP P k a then nthP P a k l else nthP P b (k + a) (l - cnP P k a)
  | 0, k, l, l0 => by
    rw [Nat.zero_add, if_neg (show ¬ l < cnP P k 0 from by show ¬ l < 0; omega)]
    show nthP P b k l = nthP P b (k + 0) (l - 0)
    rw [Int.add_zero, Int.sub_zero]
  | a + 1, k, l, l0 => by
    have cb := cnP_b (P := P) (k := k + 1) a
    rw [show a + 1 + b = (a + b) + 1 by omega, cnP_f]
    by_cases e : P k
    · rw [if_pos e]
      by_cases z : l = 0
      · subst z; rw [nthP_z e, nthP_z e, if_pos (by omega)]
      · rw [nthP_y e z, nthP_y e z, nthP_sp b a (k + 1) (l - 1) (by omega)]
        by_cases w : l - 1 < cnP P (k + 1) a
        · rw [if_pos w, if_pos (by omega)]
        · rw [if_neg w, if_neg (by omega)]; congr 1 <;> omega
    · rw [if_neg e, nthP_n e, nthP_n e, nthP_sp b a (k + 1) l l0]
      by_cases w : l < cnP P (k + 1) a
      · rw [if_pos w, if_pos (by omega)]
      · rw [if_neg w, if_neg (by omega)]; congr 1 <;> omega
/-- bits of any number, as the machine takes them -/
theorem bit_eqU {a k : Int} (hk : 0 ≤ k ∧ k < 32) : ian (isr a k) 1 = bt a k := by
  have e1 : isr a k = isr (w32 a) k := by unfold isr; rw [ofw32]
  have e2 : uN (w32 a) = uN a := by unfold uN w32; omega
  have ek : ((k.toNat : Nat) : Int) = k := by omega
  rw [e1, bit_eq (w32_ok a) hk, ← ek, bt_u k.toNat (by omega), bt_u k.toNat (by omega), e2]
noncomputable def kaF (P : Int → Prop) (l : Int) : Int := if nthP P 18278 0 l = -1 then -1 else knF (nthP P 18278 0 l)
section
variable {E : EN} {d : Nat} {σ : Mem} {t nm : Int → Int} {n L : Int}
theorem s_nthBit {K : Int → Mem → Prop} {P : Int → Prop} {a k l : Int} (hb : ∀ j : Nat, j < 32 → (bt a j = 1 ↔ P (k + j))) (hl : 0 ≤ l ∧ l < cnP P k 32) (q : K (nthP P 32 k l - k) σ) : CI E y_Ciph_nthBit d [vi a, vi l] σ K := by
  have loop : ∀ (m j : Nat) (l : Int) (o1 : Option AV), j + m = 32 → 0 ≤ l ∧ l < cnP P (k + j) m → K (nthP P m (k + j) l - k) σ → Z E y_Ciph_nthBit d 4 [some (vi a), o1, some (vi l), some (vi (j : Int))] [] σ (qi K) := by
    intro m
    induction m with
    | zero => intro j l o1 hj hl q; simp [cnP] at hl; omega
    | succ m ih =>
      intro j l o1 hj hl q
      have cb := cnP_b (P := P) (k := k + j + 1) m
      rw [cnP_f] at hl
      refine b_Ciph_nthBit_4 (a1 := 0) ⟨fun z => absurd z (by omega), fun _ => ?_⟩
      rw [bit_eqU (by omega), wid (x := (j : Int) + 1) (by omega) (by omega)]
      refine ⟨fun z => ?_, fun z => ⟨fun y => ?_, fun y => ?_⟩⟩
      · have e : ¬ P (k + j) := fun w => by rw [(hb j (by omega)).mpr w] at z; exact absurd z (by decide)
        rw [if_neg e] at hl
        rw [nthP_n e] at q
        have := ih (j + 1) l o1 (by omega) (by rw [show k + ((j + 1 : Nat) : Int) = k + j + 1 by omega]; omega) (by rw [show k + ((j + 1 : Nat) : Int) = k + j + 1 by omega]; exact q)
        exact this
      · have e : P (k + j) := (hb j (by omega)).mp (bt_not z)
        rw [if_pos e] at hl
        rw [nthP_y e y] at q
        have := ih (j + 1) (l - 1) none (by omega) (by rw [show k + ((j + 1 : Nat) : Int) = k + j + 1 by omega]; omega) (by rw [show k + ((j + 1 : Nat) : Int) = k + j + 1 by omega]; exact q)
        rw [wid (x := l + -1) (by omega) (by omega)]
        exact this
      · have e : P (k + j) := (hb j (by omega)).mp (bt_not z)
        subst y
        rw [nthP_z e, show k + (j : Int) - k = j by omega] at q
        exact q
  refine c_Ciph_nthBit (b_Ciph_nthBit_0 (loop 32 0 l _ (by omega) ?_ ?_))
  · rw [show k + ((0 : Nat) : Int) = k by omega]; exact hl
  · rw [show k + ((0 : Nat) : Int) = k by omega]; exact q
theorem s_numberOf {K : Int → Mem → Prop} {x : Int} (hx : 0 ≤ x ∧ x < 18278) (q : K (knF x) σ) : CI E y_Ciph_numberOf d [vi x] σ K := by
  unfold knF at q
  refine c_Ciph_numberOf (b_Ciph_numberOf_0 ⟨fun a => ⟨fun b => ?_, fun b => ?_⟩, fun a => ?_⟩)
  · rw [if_neg (by omega), if_neg (by omega)] at q
    rw [wid (x := 1000 + x) (by omega) (by omega), wid (by omega) (by omega), show 1000 + x - 702 = 1000 + (x - 702) by omega]; exact q
  · rw [if_neg (by omega), if_pos (by omega)] at q
    rw [wid (x := 100 + x) (by omega) (by omega), wid (by omega) (by omega), show 100 + x - 26 = 100 + (x - 26) by omega]; exact q
  · rw [if_pos a] at q; exact q
theorem s_nth {K : Int → Mem → Prop} {l : Int} (hd : 1 ≤ d) (h : FB σ t nm L n) (hl : 0 ≤ l ∧ l < 2147483648) (q : K (kaF (fitI t nm L n) l) σ) : CI E y_Ciph_nth d [vr 96, vi l] σ K := by
  have beyond : cnP (fitI t nm L n) (0 + ((18278 : Nat) : Int)) 26 = 0 := cnP_0 26 (fun x a b z => by have := z.1; omega)
  have e18 : nthP (fitI t nm L n) 18304 0 l = nthP (fitI t nm L n) 18278 0 l := by
    have := nthP_sp (P := fitI t nm L n) 26 18278 0 l hl.1
    rw [show 18278 + 26 = 18304 by omega] at this
    rw [this]
    by_cases e : l < cnP (fitI t nm L n) 0 18278
    · rw [if_pos e]
    · rw [if_neg e, nthP_ge 18278 0 l hl.1 (by omega), nthP_ge 26 _ _ (by omega) (by rw [beyond]; omega)]
  unfold kaF at q
  rw [← e18] at q
  have loop : ∀ (m i : Nat) (l : Int) (o1 o4 : Option AV), i + m = 572 → 0 ≤ l ∧ l < 2147483648 → K (if nthP (fitI t nm L n) (32 * m) (32 * i) l = -1 then -1 else knF (nthP (fitI t nm L n) (32 * m) (32 * i) l)) σ → Z E y_Ciph_nth d 4 [some (vr 96), o1, some (vi l), some (vi (i : Int)), o4] [] σ (qi K) := by
    intro m
    induction m with
    | zero =>
      intro i l o1 o4 hi hl q
      exact b_Ciph_nth_4 (a1 := 0) (by omega) ⟨fun _ => q, fun z => absurd z (by omega)⟩
    | succ m ih =>
      intro i l o1 o4 hi hl q
      have cb := cnP_b (P := fitI t nm L n) (k := 32 * (i : Int)) 32
      have sp := nthP_sp (P := fitI t nm L n) (32 * m) 32 (32 * (i : Int)) l hl.1
      rw [show 32 + 32 * m = 32 * (m + 1) by omega] at sp
      refine b_Ciph_nth_4 (a1 := 0) (by omega) ⟨fun z => absurd z (by omega), fun _ => ⟨by omega, s_bitCount ?_⟩⟩
      rw [bcE_eq, h.w (by omega)]
      refine ⟨fun z => ?_, fun z => ?_⟩
      · rw [if_neg (show ¬ l < cnP (fitI t nm L n) (32 * (i : Int)) 32 by omega)] at sp
        rw [sp] at q
        rw [wid (x := (i : Int) + 1) (by omega) (by omega), wid (by omega) (by omega)]
        refine ih (i + 1) _ none _ (by omega) (by omega) ?_
        rw [show 32 * ((i + 1 : Nat) : Int) = 32 * (i : Int) + ((32 : Nat) : Int) by omega]
        exact q
      · rw [if_pos z] at sp
        rw [sp] at q
        have lt := nthP_lt (P := fitI t nm L n) 32 (32 * (i : Int)) l hl.1 z
        have hx : nthP (fitI t nm L n) 32 (32 * (i : Int)) l < 18278 := by
          rcases Int.lt_or_le (nthP (fitI t nm L n) 32 (32 * (i : Int)) l) 18278 with w | w
          · exact w
          · exfalso
            -- a key beyond all keys does not fit
            have hi2 : i = 571 := by omega
            have c1 := cnP_ad (P := fitI t nm L n) (k := 32 * (i : Int)) 6 26
            have c2 : cnP (fitI t nm L n) (32 * (i : Int) + ((6 : Nat) : Int)) 26 = 0 := cnP_0 26 (fun x a b y => by have := y.1; omega)
            rw [show 6 + 26 = 32 by omega, c2] at c1
            have s2 := nthP_sp (P := fitI t nm L n) 26 6 (32 * (i : Int)) l hl.1
            rw [show 6 + 26 = 32 by omega, if_pos (by omega)] at s2
            have := nthP_lt (P := fitI t nm L n) 6 (32 * (i : Int)) l hl.1 (by omega)
            omega
        rw [if_neg (by omega)] at q
        refine s_nthBit (P := fitI t nm L n) (k := 32 * (i : Int)) (fun j hj => ?_) ⟨hl.1, z⟩ ?_
        · have := h (32 * i + j) (by omega) (by omega)
          unfold bX at this
          rw [show (32 * (i : Int) + j) / 32 = i by omega, show (32 * (i : Int) + j) % 32 = j by omega] at this
          exact this
        · rw [wid (x := 32 * (i : Int)) (by omega) (by omega), wid (by omega) (by omega), show 32 * (i : Int) + (nthP (fitI t nm L n) 32 (32 * (i : Int)) l - 32 * (i : Int)) = nthP (fitI t nm L n) 32 (32 * (i : Int)) l by omega]
          exact s_numberOf (by omega) q
  exact c_Ciph_nth (b_Ciph_nth_0 (loop 572 0 l _ _ (by omega) hl q))
end
theorem sp37 : SP37 II := by
  intro E σ u l hI hR hu hl
  have hT := hI.1
  refine c_BC_keyAt (b_BC_keyAt_0 (by omega) (ci_start hI (by omega) (fun hne τ hF => ⟨fun z => absurd z hne, fun _ => c_Mod_keyAt (b_Mod_keyAt_0 (by omega) (ci_model hI hF (by omega) ⟨fun z => absurd z hne, fun _ => ⟨rfl, (hI.ci hF).thr⟩⟩))⟩) (fun he τ hF hC hN => ⟨fun _ => ⟨fun l0 => ?_, fun l0 => ?_⟩, fun z => absurd rfl z⟩)))
  · obtain ⟨hu4, hr, hn1, hok⟩ := cdF_0 hI.2.2.2.2.2.1 he
    have r4 := hr.2.2.2.1
    have r3 := hr.2.2.1
    unfold i32 at hl
    refine s_findKeys (by omega) hC hN (fun τ2 hF2 _ hB => ?_)
    have hFF : Fr ciS σ τ2 := hF.tr (hF2.wk (by decide))
    have M : ∀ x, x = kaF (fitI (fun p => σ 132 (40 * u + p)) (fun m => σ 116 (19 + m)) (σ 116 6) (σ 131 u)) l → CI E y_Mod_keyAt 400 [vr 115, vi u, vi l] τ2 (fun y υ => x = y ∧ II υ) := by
      intro x hx
      refine c_Mod_keyAt (b_Mod_keyAt_0 (by omega) (ci_model hI hFF (by omega) ?_))
      rw [he]
      refine ⟨fun _ => ⟨fun _ => ?_, fun z => absurd z (by omega)⟩, fun z => absurd rfl z⟩
      generalize hM : up τ2 115 0 0 = M
      have hIM : II M := by rw [← hM]; exact (hI.ci hFF).thr
      have g : ∀ c, c ∉ ciS → c ≠ 115 → M c = σ c := fun c a b => by rw [← hM, up_cell b, hFF c a]
      have loop : ∀ (m i : Nat) (l : Int) (τ3 : Mem) (o2 o3 o6 : Option AV), i + m = 18278 → 0 ≤ l ∧ l < 2147483648 → Fr [115, 128] M τ3 → keep [39] M τ3 → x = (if nthP (fitI (fun p => σ 132 (40 * u + p)) (fun m => σ 116 (19 + m)) (σ 116 6) (σ 131 u)) m i l = -1 then -1 else knF (nthP (fitI (fun p => σ 132 (40 * u + p)) (fun m => σ 116 (19 + m)) (σ 116 6) (σ 131 u)) m i l)) → Z E y_Mod_keyAt 400 30 [some (vr 115), some (vi u), o2, o3, some (vi l), some (vi (i : Int)), o6] [] τ3 (qi fun y υ => x = y ∧ II υ) := by
        intro m
        induction m with
        | zero =>
          intro i l τ3 o2 o3 o6 hi hl hF3 hK3 hx
          exact b_Mod_keyAt_30 (a2 := 0) (by omega) ⟨fun _ => ⟨hx, hIM.km hF3 hK3⟩, fun z => absurd z (by omega)⟩
        | succ m ih =>
          intro i l τ3 o2 o3 o6 hi hl hF3 hK3 hx
          have m131 : τ3 131 = σ 131 := by rw [hF3 131 (by decide), g 131 (by decide) (by decide)]
          have m132 : τ3 132 = σ 132 := by rw [hF3 132 (by decide), g 132 (by decide) (by decide)]
          have m6 : τ3 116 = σ 116 := by rw [hF3 116 (by decide), g 116 (by decide) (by decide)]
          refine b_Mod_keyAt_30 (a2 := 0) (by omega) ⟨fun z => absurd z (by omega), fun _ => t_laysKey (by omega) (fun τ4 hF4 hK4 hS4 => fitM (by omega) (by omega) hu4 hT m6 (by rw [m131]; omega) (by unfold okC at hok ⊢; rw [m131, m132]; exact hok) (fun τ5 hF5 hK5 _ hfit y hy => ⟨fun _ => ⟨fun hl0 => ?_, fun hl0 => ?_⟩, fun z => absurd z hy⟩) (fun τ5 hF5 hK5 hnf => ⟨fun z => absurd rfl z, fun _ => ?_⟩) τ4 hF4 hK4 hS4)⟩
          · rw [m131, m132] at hfit
            rw [nthP_y hfit hl0] at hx
            rw [wid (x := (i : Int) + 1) (by omega) (by omega), wid (x := l + -1) (by omega) (by omega)]
            exact ih (i + 1) (l - 1) τ5 _ _ _ (by omega) (by omega) (hF3.tr hF5) (hK3.tr hK5) hx
          · rw [m131, m132] at hfit
            subst hl0
            rw [nthP_z hfit, if_neg (by omega)] at hx
            exact ⟨hx, hIM.km (hF3.tr hF5) (hK3.tr hK5)⟩
          · rw [m131, m132] at hnf
            rw [nthP_n hnf] at hx
            rw [wid (x := (i : Int) + 1) (by omega) (by omega)]
            exact ih (i + 1) l τ5 _ _ _ (by omega) hl (hF3.tr hF5) (hK3.tr hK5) hx
      exact loop 18278 0 l M _ _ _ (by omega) (by omega) Fr.rf keep.rf hx
    exact s_nth (by omega) hB (by omega) (M _ rfl)
  · refine c_Mod_keyAt (b_Mod_keyAt_0 (by omega) (ci_model hI hF (by omega) ?_))
    rw [he]
    exact ⟨fun _ => ⟨fun z => absurd z (by omega), fun _ => ⟨rfl, (hI.ci hF).thr⟩⟩, fun z => absurd rfl z⟩
