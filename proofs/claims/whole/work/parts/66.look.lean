/-! look -/
def sm (f : Int → Int) : Nat → Int
  | 0 => 0
  | n + 1 => sm f n + f n
theorem sm_cg {f g : Int → Int} : ∀ n : Nat, (∀ c : Int, 0 ≤ c → c < n → f c = g c) → sm f n = sm g n
  | 0, _ => rfl
  | n + 1, h => by simp only [sm]; rw [sm_cg n (fun c a b => h c a (by omega)), h n (by omega) (by omega)]
theorem sm_sp (f : Int → Int) (a : Nat) : ∀ b : Nat, sm f (a + b) = sm f a + sm (fun c => f (a + c)) b
  | 0 => by simp [sm]
  | b + 1 => by
    show sm f (a + b) + f ((a + b : Nat) : Int) = sm f a + (sm (fun c => f (a + c)) b + f (a + b))
    rw [sm_sp f a b, show ((a + b : Nat) : Int) = (a : Int) + b by omega, Int.add_assoc]
theorem sm_f (f : Int → Int) (n : Nat) : sm f (n + 1) = f 0 + sm (fun c => f (1 + c)) n := by
  have := sm_sp f 1 n
  rw [show 1 + n = n + 1 by omega] at this
  rw [this]
  simp [sm]
/-- the other way round -/
theorem sm_rev (f : Int → Int) : ∀ n : Nat, sm (fun c => f ((n : Int) - 1 - c)) n = sm f n
  | 0 => rfl
  | n + 1 => by
    rw [sm_f]
    have e : sm (fun c => f (((n + 1 : Nat) : Int) - 1 - (1 + c))) n = sm (fun c => f ((n : Int) - 1 - c)) n := sm_cg n (fun c _ _ => by congr 1; omega)
    rw [e, sm_rev f n]
    show f (((n + 1 : Nat) : Int) - 1 - 0) + sm f n = sm f n + f n
    rw [show ((n + 1 : Nat) : Int) - 1 - 0 = n by omega, Int.add_comm]
theorem sm_rot (f : Int → Int) {t : Int} (ht : 0 ≤ t ∧ t ≤ 25) : sm (fun c => f ((t - c) % 26)) 26 = sm f 26 := by
  have h1 := sm_sp (fun c => f ((t - c) % 26)) (t.toNat + 1) (25 - t.toNat)
  have h2 := sm_sp f (t.toNat + 1) (25 - t.toNat)
  rw [show t.toNat + 1 + (25 - t.toNat) = 26 by omega] at h1 h2
  rw [h1, h2]
  have a1 : sm (fun c => f ((t - c) % 26)) (t.toNat + 1) = sm f (t.toNat + 1) := by
    rw [← sm_rev f (t.toNat + 1)]
    exact sm_cg _ (fun c a b => by congr 1; omega)
  have a2 : sm (fun c => f ((t - (((t.toNat + 1 : Nat) : Int) + c)) % 26)) (25 - t.toNat) = sm (fun c => f (((t.toNat + 1 : Nat) : Int) + c)) (25 - t.toNat) := by
    rw [← sm_rev (fun c => f (((t.toNat + 1 : Nat) : Int) + c)) (25 - t.toNat)]
    exact sm_cg _ (fun c a b => by congr 1; omega)
  rw [a1, a2]
theorem pcS_sm (a : Int) : ∀ n : Nat, pcS a n = sm (fun c => bt a c) n
  | 0 => rfl
  | n + 1 => by simp only [pcS, sm]; rw [pcS_sm a n]
def atF (r : Int) : Int := if r = 1 then 0 else if r = 2 then 1 else 3
/-- shifts of the keys that fit, as bits -/
def SB (τ : Mem) (P : Int → Prop) (k : Int) : Prop := ∀ a c : Int, 0 ≤ a → a < 6 → 0 ≤ c → c < 32 → (bt (τ 100 a) c = 1 ↔ ∃ x j : Int, (0 ≤ x ∧ x < k) ∧ P x ∧ (0 ≤ j ∧ j < rnF x) ∧ a = atF (rnF x) + j ∧ shS x j = c)
section
variable {E : EN} {d : Nat} {σ : Mem} {t nm : Int → Int} {n L : Int}
theorem s_findShifts {K : Mem → Prop} (hd : 1 ≤ d) (h : FB σ t nm L n) (q : ∀ τ, Fr [96, 99, 100] σ τ → (∀ k, k ≠ 5 → τ 96 k = σ 96 k) → SB τ (fitI t nm L n) 18278 → K τ) : CV E y_Ciph_findShifts d [vr 96] σ K := by
  have s100 : sh 100 = (20, 6) := by decide +kernel
  refine c_Ciph_findShifts (b_Ciph_findShifts_0 (by omega) (s_fillI (n := 6) s100 (by omega) (fun τ0 hF0 hz _ => ?_)))
  have loop : ∀ (m i : Nat) (τ : Mem) (o2 o3 : Option AV), i + m = 18278 → Fr [96, 99, 100] σ τ → (∀ k, k ≠ 5 → τ 96 k = σ 96 k) → SB τ (fitI t nm L n) i → Z E y_Ciph_findShifts d 10 [some (vr 96), some (vi (i : Int)), o2, o3] [] τ (qv K) := by
    intro m
    induction m with
    | zero =>
      intro i τ o2 o3 hi hF hk hS
      rw [show i = 18278 by omega] at hS ⊢
      exact b_Ciph_findShifts_10 (by omega) ⟨fun _ => q τ hF hk hS, fun z => absurd z (by omega)⟩
    | succ m ih =>
      intro i τ o2 o3 hi hF hk hS
      have hb := h i (by omega) (by omega)
      have e98 : τ 98 = σ 98 := hF 98 (by decide)
      refine b_Ciph_findShifts_10 (by omega) ⟨fun z => absurd z (by omega), fun _ => ?_⟩
      rw [isr_eq (a := (i : Int)) (by unfold i32; omega) (by omega), ian31 (a := (i : Int)) (by unfold i32; omega), show (5 : Int).toNat = 5 by decide, show (2 : Int) ^ 5 = 32 by decide, bit_eqU (by omega), e98]
      refine ⟨by omega, fun z => ?_, fun z => ?_⟩
      · have hn : ¬ fitI t nm L n i := fun w => by have := hb.mpr w; unfold bX at this; rw [z] at this; exact absurd this (by decide)
        rw [wid (x := (i : Int) + 1) (by omega) (by omega)]
        refine ih (i + 1) τ _ _ (by omega) hF hk (fun a c a0 a1 c0 c1 => ?_)
        rw [hS a c a0 a1 c0 c1]
        refine ⟨fun ⟨x, j, b1, b2, b3⟩ => ⟨x, j, by omega, b2, b3⟩, fun ⟨x, j, b1, b2, b3⟩ => ⟨x, j, ⟨b1.1, ?_⟩, b2, b3⟩⟩
        by_cases w : x = i
        · rw [w] at b2; exact absurd b2 hn
        · omega
      · have hfit : fitI t nm L n i := hb.mp (bt_not z)
        refine s_setShifts (by omega) (fun τ2 hF2 hk2 hC => ?_)
        have rb := rnF_b i
        have hF3 : Fr [96, 99, 100] σ τ2 := hF.tr (hF2.wk (by decide))
        have hk3 : ∀ k, k ≠ 5 → τ2 96 k = σ 96 k := fun k hk' => by rw [hk2 k hk', hk k hk']
        have inner : ∀ (m2 : Nat) (j : Int) (τ3 : Mem), 0 ≤ j → j + m2 = rnF i → Fr [100] τ2 τ3 → (∀ a c : Int, 0 ≤ a → a < 6 → 0 ≤ c → c < 32 → (bt (τ3 100 a) c = 1 ↔ (∃ x y : Int, (0 ≤ x ∧ x < i) ∧ fitI t nm L n x ∧ (0 ≤ y ∧ y < rnF x) ∧ a = atF (rnF x) + y ∧ shS x y = c) ∨ ∃ y : Int, (0 ≤ y ∧ y < j) ∧ a = atF (rnF i) + y ∧ shS i y = c)) → Z E y_Ciph_findShifts d 68 [some (vr 96), some (vi (i : Int)), some (vi (atF (rnF i))), some (vi j)] [] τ3 (qv K) := by
          intro m2
          induction m2 with
          | zero =>
            intro j τ3 j0 hj hF4 hB
            have e5 : τ3 96 5 = rnF i := by rw [hF4.one (by decide)]; exact hC.1
            refine b_Ciph_findShifts_68 ⟨fun _ => ?_, fun w => absurd w (by rw [e5]; omega)⟩
            rw [wid (x := (i : Int) + 1) (by omega) (by omega)]
            refine ih (i + 1) τ3 _ _ (by omega) (hF3.tr (hF4.wk (by decide))) (fun k hk' => by rw [hF4.one (by decide), hk3 k hk']) (fun a c a0 a1 c0 c1 => ?_)
            rw [hB a c a0 a1 c0 c1]
            constructor
            · rintro (⟨x, y, b1, b2, b3⟩ | ⟨y, b1, b2⟩)
              · exact ⟨x, y, by omega, b2, b3⟩
              · exact ⟨i, y, by omega, hfit, by omega, b2⟩
            · rintro ⟨x, y, b1, b2, b3⟩
              by_cases w : x = i
              · subst w; exact Or.inr ⟨y, by omega, b3.2⟩
              · exact Or.inl ⟨x, y, by omega, b2, b3⟩
          | succ m2 ih2 =>
            intro j τ3 j0 hj hF4 hB
            have e5 : τ3 96 5 = rnF i := by rw [hF4.one (by decide)]; exact hC.1
            have e99 : τ3 99 j = shS i j := by rw [hF4.one (by decide)]; exact hC.2 j j0 (by omega)
            have ab : 0 ≤ atF (rnF i) ∧ atF (rnF i) + rnF i ≤ 6 := by unfold atF; (repeat' split) <;> omega
            have sb := shS_b (i := (i : Int)) (j := j) (by omega)
            refine b_Ciph_findShifts_68 ⟨fun w => absurd w (by rw [e5]; omega), fun _ => ⟨fun w => absurd w (by omega), fun _ => ?_⟩⟩
            rw [e99, wid (x := atF (rnF i) + j) (by omega) (by omega), wid (x := j + 1) (by omega) (by omega)]
            refine ⟨by omega, by omega, ih2 (j + 1) _ (by omega) (by omega) (hF4.up (by simp)) (fun a c a0 a1 c0 c1 => ?_)⟩
            have old := hB a c a0 a1 c0 c1
            by_cases w : a = atF (rnF i) + j
            · subst w
              rw [up_same, bset (by omega) (by omega)]
              by_cases y : c = shS i j
              · rw [if_pos y]; exact ⟨fun _ => Or.inr ⟨j, by omega, rfl, y.symm⟩, fun _ => rfl⟩
              · rw [if_neg y, old]
                refine or_congr Iff.rfl ⟨fun ⟨v, b1, b2⟩ => ⟨v, by omega, b2⟩, fun ⟨v, b1, b2, b3⟩ => ⟨v, ⟨b1.1, ?_⟩, b2, b3⟩⟩
                by_cases z : v = j
                · rw [z] at b3; exact absurd b3.symm y
                · omega
            · rw [up_nk w, old]
              refine or_congr Iff.rfl ⟨fun ⟨v, b1, b2⟩ => ⟨v, by omega, b2⟩, fun ⟨v, b1, b2, b3⟩ => ⟨v, ⟨b1.1, by omega⟩, b2, b3⟩⟩
        have hB0 : ∀ a c : Int, 0 ≤ a → a < 6 → 0 ≤ c → c < 32 → (bt (τ2 100 a) c = 1 ↔ (∃ x y : Int, (0 ≤ x ∧ x < i) ∧ fitI t nm L n x ∧ (0 ≤ y ∧ y < rnF x) ∧ a = atF (rnF x) + y ∧ shS x y = c) ∨ ∃ y : Int, (0 ≤ y ∧ y < 0) ∧ a = atF (rnF i) + y ∧ shS i y = c) := fun a c a0 a1 c0 c1 => by
          rw [hF2 100 (by decide), hS a c a0 a1 c0 c1]
          exact ⟨fun w => Or.inl w, fun w => w.elim id (fun ⟨y, b, _⟩ => by omega)⟩
        have st := inner (rnF i).toNat 0 τ2 (by omega) (by omega) Fr.rf hB0
        rw [hC.1]
        unfold atF at st
        refine ⟨fun n1 => ⟨fun n2 => ?_, fun n2 => ?_⟩, fun n1 => ?_⟩
        · rw [if_neg n1, if_neg n2] at st; exact st
        · rw [if_neg n1, if_pos n2] at st; exact st
        · rw [if_pos n1] at st; exact st
  refine loop 18278 0 τ0 _ _ (by omega) (hF0.wk (by decide)) (fun k _ => by rw [hF0.one (by decide)]) (fun a c a0 a1 c0 c1 => ?_)
  rw [hz a a0 (by omega), bt0]
  exact ⟨fun w => absurd w (by decide), fun ⟨x, _, b, _⟩ => by omega⟩
end
/-- how many letters a place can be -/
noncomputable def unF (P : Int → Prop) (i : Int) : Int := sm (fun c => @ite _ (∃ x : Int, P x ∧ shS x (i % rnF x) = c) (Classical.propDecidable _) 1 0) 26
theorem sm_01 {f : Int → Int} (h : ∀ c, f c = 0 ∨ f c = 1) : ∀ n : Nat, 0 ≤ sm f n ∧ sm f n ≤ n
  | 0 => by simp [sm]
  | n + 1 => by
    have := sm_01 h n
    have := h n
    simp only [sm]; omega
theorem unF_b {P : Int → Prop} {i : Int} : 0 ≤ unF P i ∧ unF P i ≤ 26 := sm_01 (fun c => by split <;> simp) 26
noncomputable def lkS (P : Int → Prop) : Nat → Int × Int
  | 0 => (-1, 0)
  | i + 1 => if (lkS P i).2 < unF P i then ((i : Int), unF P i) else lkS P i
theorem ior3 {a b c : Int} {k : Nat} (hk : k < 32) : bt (ior (ior a b) c) k = if bt a k = 1 ∨ bt b k = 1 ∨ bt c k = 1 then 1 else 0 := by
  rw [bt_tb hk, uN_or, uN_or, Nat.testBit_or, Nat.testBit_or, bt_tb hk, bt_tb hk, bt_tb hk]
  cases (uN a).testBit k <;> cases (uN b).testBit k <;> cases (uN c).testBit k <;> simp
section
variable {E : EN} {d : Nat} {σ : Mem} {t nm : Int → Int} {n L : Int}
theorem slot {i x j a : Int} (hi : 0 ≤ i) (hj : 0 ≤ j ∧ j < rnF x) (ha : a = atF (rnF x) + j) (hs : a = 0 ∨ a = 1 + i % 2 ∨ a = 3 + i % 3) : j = i % rnF x := by
  have rb := rnF_b x
  have a1 : atF 1 = 0 := rfl
  have a2 : atF 2 = 1 := rfl
  have a3 : atF 3 = 3 := rfl
  rcases (show rnF x = 1 ∨ rnF x = 2 ∨ rnF x = 3 by omega) with e | e | e
  · rw [e] at hj ⊢; omega
  · rw [e, a2] at ha; rw [e] at hj ⊢; omega
  · rw [e, a3] at ha; rw [e] at hj ⊢; omega
theorem un_cls (h : SB σ (fitI t nm L n) 18278) {i : Int} (hi : 0 ≤ i) : pcS (ior (ior (σ 100 0) (σ 100 (1 + i % 2))) (σ 100 (3 + i % 3))) 32 = unF (fitI t nm L n) i := by
  have key : ∀ c : Nat, c < 32 → (bt (ior (ior (σ 100 0) (σ 100 (1 + i % 2))) (σ 100 (3 + i % 3))) c = 1 ↔ ∃ x : Int, fitI t nm L n x ∧ shS x (i % rnF x) = c) := by
    intro c hc
    have h0 := h 0 c (by omega) (by omega) (by omega) (by omega)
    have h1 := h (1 + i % 2) c (by omega) (by omega) (by omega) (by omega)
    have h3 := h (3 + i % 3) c (by omega) (by omega) (by omega) (by omega)
    rw [ior3 hc]
    constructor
    · intro z
      have z : bt (σ 100 0) c = 1 ∨ bt (σ 100 (1 + i % 2)) c = 1 ∨ bt (σ 100 (3 + i % 3)) c = 1 := by
        by_cases w : bt (σ 100 0) c = 1 ∨ bt (σ 100 (1 + i % 2)) c = 1 ∨ bt (σ 100 (3 + i % 3)) c = 1
        · exact w
        · rw [if_neg w] at z; exact absurd z (by decide)
      rcases z with z | z | z
      · obtain ⟨x, j, b1, b2, b3, b4, b5⟩ := h0.mp z
        exact ⟨x, b2, by rw [← slot hi b3 b4 (Or.inl rfl)]; exact b5⟩
      · obtain ⟨x, j, b1, b2, b3, b4, b5⟩ := h1.mp z
        exact ⟨x, b2, by rw [← slot hi b3 b4 (Or.inr (Or.inl rfl))]; exact b5⟩
      · obtain ⟨x, j, b1, b2, b3, b4, b5⟩ := h3.mp z
        exact ⟨x, b2, by rw [← slot hi b3 b4 (Or.inr (Or.inr rfl))]; exact b5⟩
    · rintro ⟨x, hx, hc2⟩
      have rb := rnF_b x
      rw [if_pos]
      rcases (show rnF x = 1 ∨ rnF x = 2 ∨ rnF x = 3 by omega) with e | e | e
      · exact Or.inl (h0.mpr ⟨x, 0, by have := hx.1; omega, hx, by omega, by rw [e]; rfl, by rw [e, show i % 1 = 0 by omega] at hc2; exact hc2⟩)
      · exact Or.inr (Or.inl (h1.mpr ⟨x, i % 2, by have := hx.1; omega, hx, by omega, by rw [e]; rfl, by rw [e] at hc2; exact hc2⟩))
      · exact Or.inr (Or.inr (h3.mpr ⟨x, i % 3, by have := hx.1; omega, hx, by omega, by rw [e]; rfl, by rw [e] at hc2; exact hc2⟩))
  rw [pcS_sm]
  have sp := sm_sp (fun c => bt (ior (ior (σ 100 0) (σ 100 (1 + i % 2))) (σ 100 (3 + i % 3))) c) 26 6
  rw [show 26 + 6 = 32 by omega] at sp
  rw [sp]
  have z6 : sm (fun c => bt (ior (ior (σ 100 0) (σ 100 (1 + i % 2))) (σ 100 (3 + i % 3))) (((26 : Nat) : Int) + c)) 6 = sm (fun _ => 0) 6 := by
    refine sm_cg 6 (fun c c0 c1 => ?_)
    have := key (26 + c.toNat) (by omega)
    rw [show ((26 + c.toNat : Nat) : Int) = ((26 : Nat) : Int) + c by omega] at this
    rcases bt_01 (ior (ior (σ 100 0) (σ 100 (1 + i % 2))) (σ 100 (3 + i % 3))) (((26 : Nat) : Int) + c) with w | w
    · exact w
    · obtain ⟨x, hx, hc⟩ := this.mp w
      have := shS_b (j := i % rnF x) hx.1
      omega
  rw [z6, show sm (fun _ => (0 : Int)) 6 = 0 by decide, Int.add_zero]
  unfold unF
  refine sm_cg 26 (fun c c0 c1 => ?_)
  have := key c.toNat (by omega)
  rw [show ((c.toNat : Nat) : Int) = c by omega] at this
  by_cases w : ∃ x : Int, fitI t nm L n x ∧ shS x (i % rnF x) = c
  · rw [if_pos w]; exact this.mpr w
  · rw [if_neg w]
    rcases bt_01 (ior (ior (σ 100 0) (σ 100 (1 + i % 2))) (σ 100 (3 + i % 3))) c with y | y
    · exact y
    · exact absurd (this.mp y) w
theorem un_mod {a i : Int} (ht : 0 ≤ t i ∧ t i ≤ 25) (h : ∀ c : Int, 0 ≤ c → c < 26 → (bt a c = 1 ↔ ∃ x : Int, fitI t nm L n x ∧ plF t x i = c)) : sm (fun c => bt a c) 26 = unF (fitI t nm L n) i := by
  unfold unF
  refine Eq.trans ?_ (sm_rot _ ht)
  refine sm_cg 26 (fun c c0 c1 => ?_)
  have hc := h c c0 (by omega)
  have conv : (∃ x : Int, fitI t nm L n x ∧ plF t x i = c) ↔ (∃ x : Int, fitI t nm L n x ∧ shS x (i % rnF x) = (t i - c) % 26) := by
    constructor
    · rintro ⟨x, hx, e⟩
      refine ⟨x, hx, ?_⟩
      have sb := shS_b (j := i % rnF x) hx.1
      unfold plF at e; omega
    · rintro ⟨x, hx, e⟩
      refine ⟨x, hx, ?_⟩
      have sb := shS_b (j := i % rnF x) hx.1
      unfold plF; omega
  rw [conv] at hc
  by_cases w : ∃ x : Int, fitI t nm L n x ∧ shS x (i % rnF x) = (t i - c) % 26
  · rw [if_pos w]; exact hc.mpr w
  · rw [if_neg w]
    rcases bt_01 a c with y | y
    · exact y
    · exact absurd (hc.mp y) w
theorem s_mostUnlike {K : Int → Mem → Prop} (hd : 2 ≤ d) (hT : CTx σ t n) (h : FB σ t nm L n) (q : ∀ τ, Fr [96, 99, 100] σ τ → K (lkS (fitI t nm L n) n.toNat).1 τ) : CI E y_Ciph_mostUnlike d [vr 96] σ K := by
  have n40 := hT.2.1
  refine c_Ciph_mostUnlike (b_Ciph_mostUnlike_0 (by omega) (s_findShifts (by omega) h (fun τ hF hk hS => ?_)))
  have t2 : τ 96 2 = n := by rw [hk 2 (by decide)]; exact hT.1
  have loop : ∀ (m i : Nat) (o4 : Option AV), (i : Int) + m = n → Z E y_Ciph_mostUnlike d 10 [some (vr 96), some (vi (lkS (fitI t nm L n) i).1), some (vi (lkS (fitI t nm L n) i).2), some (vi (i : Int)), o4] [] τ (qi K) := by
    intro m
    induction m with
    | zero =>
      intro i o4 hi
      refine b_Ciph_mostUnlike_10 (by omega) ⟨fun _ => ?_, fun z => absurd z (by omega)⟩
      rw [show i = n.toNat by omega]; exact q τ hF
    | succ m ih =>
      intro i o4 hi
      have nx := fun o4 => ih (i + 1) o4 (by omega)
      simp only [lkS] at nx
      refine b_Ciph_mostUnlike_10 (by omega) ⟨fun z => absurd z (by omega), fun _ => ?_⟩
      rw [Int.tmod_eq_emod_of_nonneg (by omega), Int.tmod_eq_emod_of_nonneg (by omega), wid (x := 1 + (i : Int) % 2) (by omega) (by omega), wid (x := 3 + (i : Int) % 3) (by omega) (by omega), wid (x := (i : Int) + 1) (by omega) (by omega)]
      refine ⟨by omega, by omega, s_bitCount ?_⟩
      rw [bcE_eq, un_cls hS (by omega)]
      refine ⟨fun z => ?_, fun z => ?_⟩
      · have := nx (some (vi (unF (fitI t nm L n) i)))
        rw [if_neg (by omega)] at this; exact this
      · have := nx (some (vi (unF (fitI t nm L n) i)))
        rw [if_pos z] at this; exact this
  exact loop n.toNat 0 _ (by omega)
end
