/-! keys, keyAt -/
def fitI (t nm : Int → Int) (L n x : Int) : Prop := (0 ≤ x ∧ x < 18278) ∧ plcF t nm L n x ≠ -1
/-- the bits of the class's table tell the keys that fit -/
def FB (τ : Mem) (t nm : Int → Int) (L n : Int) : Prop := ∀ x : Int, 0 ≤ x → x < 18304 → (bX τ x = 1 ↔ fitI t nm L n x)
section
variable {E : EN} {d : Nat} {σ : Mem} {t nm : Int → Int} {n L : Int}
theorem nat_iff {r p i : Int} (hN : ∀ m : Int, 0 ≤ m → m < L → 0 ≤ nm m ∧ nm m ≤ 25) (hi : 0 ≤ i ∧ i < 18278) (hr : rnF i = r) : NAt t nm L i p ↔ ∀ m : Int, 0 ≤ m → m < L → shS i ((p + m) % r) = rqF t nm p m := by
  unfold NAt
  constructor
  · intro h m m0 m1; have := (rq_iff hi (hN m m0 m1)).mp (h m m0 m1); rw [hr] at this; exact this
  · intro h m m0 m1; refine (rq_iff hi (hN m m0 m1)).mpr ?_; rw [hr]; exact h m m0 m1
theorem s_findKeys {K : Mem → Prop} (hd : 2 ≤ d) (hT : CTx σ t n) (hN : CNm σ nm L) (q : ∀ τ, Fr [96, 98, 99] σ τ → (∀ k, k ≠ 5 → τ 96 k = σ 96 k) → FB τ t nm L n → K τ) : CV E y_Ciph_findKeys d [vr 96] σ K := by
  have N2 := hN.2.1
  have N3 := hN.2.2
  have n40 := hT.2.1
  have hN3 : ∀ m : Int, 0 ≤ m → m < L → 0 ≤ nm m ∧ nm m ≤ 25 := fun m a b => (N3 m a b).2
  have s98 : sh 98 = (20, 572) := by decide +kernel
  refine c_Ciph_findKeys (b_Ciph_findKeys_0 (by omega) (s_fillI (n := 572) s98 (by omega) (fun τ0 hF0 hz _ => ?_)))
  have z0 : ∀ x : Int, 0 ≤ x → x < 18304 → ¬ bX τ0 x = 1 := fun x x0 x1 => by unfold bX; rw [hz _ (by omega) (by omega), bt0]; decide
  have e2 : τ0 2 = σ 2 := hF0.one (by decide)
  rw [e2, hN.1]
  have lat : ∀ (m : Nat) (r p : Int) (τ : Mem), (1 ≤ r ∧ r ≤ 3) → 1 ≤ L → 0 ≤ p → p + m = n - L + 1 ∨ (m = 0 ∧ p = 0 ∧ n - L + 1 < 0) → Fr [96, 98, 99] σ τ → (∀ k, k ≠ 5 → τ 96 k = σ 96 k) → τ 96 5 = r → (∀ x : Int, 0 ≤ x → x < 18304 → (bX τ x = 1 ↔ ((0 ≤ x ∧ x < 18278) ∧ ∃ v, 0 ≤ v ∧ v + L ≤ n ∧ NAt t nm L x v ∧ (rnF x < r ∨ rnF x = r ∧ v < p)))) → (∀ (τ : Mem) (o2 : Option AV), Fr [96, 98, 99] σ τ → (∀ k, k ≠ 5 → τ 96 k = σ 96 k) → (∀ x : Int, 0 ≤ x → x < 18304 → (bX τ x = 1 ↔ ((0 ≤ x ∧ x < 18278) ∧ ∃ v, 0 ≤ v ∧ v + L ≤ n ∧ NAt t nm L x v ∧ rnF x < r + 1))) → Z E y_Ciph_findKeys d 22 [some (vr 96), some (vi (r + 1)), o2] [] τ (qv K)) → Z E y_Ciph_findKeys d 34 [some (vr 96), some (vi r), some (vi p)] [] τ (qv K) := by
    intro m
    induction m with
    | zero =>
      intro r p τ hr hL p0 hp hF hk h5 hB nx
      refine b_Ciph_findKeys_34 (by omega) ?_
      by_cases hbig : 2000000000 < p
      · exfalso
        rcases hp with hp | hp <;> omega
      rw [hF 2 (by decide), hN.1, hk 2 (by decide), hT.1, wid (x := p + L) (by omega) (by omega), wid (x := r + 1) (by omega) (by omega)]
      refine ⟨fun _ => nx τ _ hF hk (fun x x0 x1 => ?_), fun z => absurd z (by omega)⟩
      rw [hB x x0 x1]
      refine and_congr Iff.rfl ⟨fun ⟨v, a, b, c, e⟩ => ⟨v, a, b, c, by omega⟩, fun ⟨v, a, b, c, e⟩ => ⟨v, a, b, c, by omega⟩⟩
    | succ m ih =>
      intro r p τ hr hL p0 hp hF hk h5 hB nx
      have hp : p + (m + 1 : Nat) = n - L + 1 := by omega
      have hT2 : CTx τ t n := ⟨by rw [hk 2 (by decide)]; exact hT.1, n40, fun p a b => by rw [hF 97 (by decide)]; exact hT.2.2 p a b⟩
      have hN2 : CNm τ nm L := hN.fr (hF 2 (by decide)) (hF 7 (by decide))
      refine b_Ciph_findKeys_34 (by omega) ?_
      rw [hF 2 (by decide), hN.1, hk 2 (by decide), hT.1, wid (x := p + L) (by omega) (by omega), wid (x := p + 1) (by omega) (by omega)]
      refine ⟨fun z => absurd z (by omega), fun _ => s_shiftsFor (by omega) hr h5 hT2 hN2 ⟨p0, by omega⟩ (fun τ2 hF2 hS => ⟨fun z => absurd z (by decide), fun _ => ?_⟩) (fun τ2 hF2 ⟨a, b, ha, hb, hab, hne⟩ => ⟨fun _ => ?_, fun z => absurd rfl z⟩)⟩
      · have e96 : τ2 96 = τ 96 := hF2.one (by decide)
        refine s_markKeys (by omega) hr (by rw [e96]; exact h5) (fun j j0 j1 => ?_) hS.2 (fun τ3 hF3 hB3 => ?_)
        · rcases Int.lt_or_le j r with w | w
          · rcases hS.1 j j0 w with ⟨a, _⟩ | ⟨a, _⟩ <;> omega
          · have := hS.2 j w j1; omega
        · refine ih r (p + 1) τ3 hr hL (by omega) (Or.inl (by omega)) ((hF.tr (hF2.wk (by decide))).tr (hF3.wk (by decide))) (fun k hk' => by rw [hF3.one (by decide), e96, hk k hk']) (by rw [hF3.one (by decide), e96]; exact h5) (fun x x0 x1 => ?_) nx
          have eb : bX τ2 x = bX τ x := by unfold bX; rw [hF2.one (by decide)]
          rw [hB3 x x0 x1, eb, hB x x0 x1]
          have key : hasS τ2 r x ↔ ((0 ≤ x ∧ x < 18278) ∧ rnF x = r ∧ NAt t nm L x p) := by
            constructor
            · rintro ⟨a, b, c⟩
              refine ⟨a, b, (nat_iff hN3 a b).mpr (fun m m0 m1 => ?_)⟩
              have tm := tm3 (p := p + m) (r := r) (by omega) hr
              rcases hS.1 _ tm.2.1 tm.2.2 with ⟨_, w⟩ | ⟨w1, _, w2⟩
              · exact absurd rfl (w m m0 m1)
              · rcases c _ tm.2.1 tm.2.2 with y | y
                · omega
                · rw [y]; exact (w2 m m0 m1 rfl).symm
            · rintro ⟨a, b, c⟩
              refine ⟨a, b, fun j j0 j1 => ?_⟩
              have c := (nat_iff hN3 a b).mp c
              rcases hS.1 j j0 j1 with ⟨w, _⟩ | ⟨_, ⟨m, m0, m1, m2⟩, w⟩
              · exact Or.inl w
              · right
                have c1 := c m m0 m1
                rw [m2] at c1
                rw [c1]; exact w m m0 m1 m2
          rw [key]
          constructor
          · rintro (⟨a, v, b, c, e, f⟩ | ⟨a, b, c⟩)
            · exact ⟨a, v, b, c, e, by omega⟩
            · exact ⟨a, p, p0, by omega, c, by omega⟩
          · rintro ⟨a, v, b, c, e, f⟩
            by_cases w : rnF x = r ∧ v = p
            · rw [w.2] at e; exact Or.inr ⟨a, w.1, e⟩
            · exact Or.inl ⟨a, v, b, c, e, by omega⟩
      · have e96 : τ2 96 = τ 96 := hF2.one (by decide)
        refine ih r (p + 1) τ2 hr hL (by omega) (Or.inl (by omega)) (hF.tr (hF2.wk (by decide))) (fun k hk' => by rw [e96, hk k hk']) (by rw [e96]; exact h5) (fun x x0 x1 => ?_) nx
        have eb : bX τ2 x = bX τ x := by unfold bX; rw [hF2.one (by decide)]
        rw [eb, hB x x0 x1]
        refine and_congr Iff.rfl ⟨fun ⟨v, c1, c2, c3, c4⟩ => ⟨v, c1, c2, c3, by omega⟩, fun ⟨v, c1, c2, c3, c4⟩ => ⟨v, c1, c2, c3, ?_⟩⟩
        by_cases w : rnF x = r ∧ v = p
        · exfalso
          rw [w.2] at c3
          by_cases hx : 0 ≤ x ∧ x < 18278
          · have c := (nat_iff hN3 hx w.1).mp c3
            have y1 := c a ha.1 ha.2
            have y2 := c b hb.1 hb.2
            rw [hab] at y1
            exact hne (by rw [← y1, ← y2])
          · have c := c3
            have hu : ∀ m : Int, 0 ≤ m → m < L → plF t x (p + m) = nm m := c
            -- beyond the keys nothing is asked
            have : ¬ (rnF x = r) ∨ True := Or.inr trivial
            exact hx ⟨x0, by
              rcases Int.lt_or_le x 18278 with z | z
              · exact z
              · exact absurd hu (fun _ => hx (by
                  exfalso
                  have h1 := hu a ha.1 ha.2
                  have h2 := hu b hb.1 hb.2
                  unfold plF at h1 h2
                  rw [w.1, hab] at h1
                  rw [w.1] at h2
                  have g1 := hN3 a ha.1 ha.2
                  have g2 := hN3 b hb.1 hb.2
                  unfold rqF at hne
                  omega))⟩
        · omega
  refine ⟨fun hL => ?_, fun hL => q τ0 (hF0.wk (by decide)) (fun k _ => by rw [hF0.one (by decide)]) (fun x x0 x1 => ⟨fun z => absurd z (z0 x x0 x1), fun z => absurd ((plcF_ne n40.2).mp z.2).1 (by omega)⟩)⟩
  have rounds : ∀ (m : Nat) (r : Int) (τ : Mem) (o2 : Option AV), 1 ≤ r → r + m = 4 → Fr [96, 98, 99] σ τ → (∀ k, k ≠ 5 → τ 96 k = σ 96 k) → (∀ x : Int, 0 ≤ x → x < 18304 → (bX τ x = 1 ↔ ((0 ≤ x ∧ x < 18278) ∧ ∃ v, 0 ≤ v ∧ v + L ≤ n ∧ NAt t nm L x v ∧ rnF x < r))) → Z E y_Ciph_findKeys d 22 [some (vr 96), some (vi r), o2] [] τ (qv K) := by
    intro m
    induction m with
    | zero =>
      intro r τ o2 r1 hr hF hk hB
      refine b_Ciph_findKeys_22 ⟨fun _ => q τ hF hk (fun x x0 x1 => ?_), fun z => absurd z (by omega)⟩
      rw [hB x x0 x1]
      unfold fitI
      rw [plcF_ne n40.2]
      have rb := rnF_b x
      exact and_congr Iff.rfl ⟨fun ⟨v, a, b, c, _⟩ => ⟨hL, v, a, b, c⟩, fun ⟨_, v, a, b, c⟩ => ⟨v, a, b, c, by omega⟩⟩
    | succ m ih =>
      intro r τ o2 r1 hr hF hk hB
      refine b_Ciph_findKeys_22 ⟨fun z => absurd z (by omega), fun _ => ?_⟩
      have hp : (0 : Int) + (n - L + 1).toNat = n - L + 1 ∨ ((n - L + 1).toNat = 0 ∧ (0 : Int) = 0 ∧ n - L + 1 < 0) := by omega
      refine lat (n - L + 1).toNat r 0 _ (by omega) hL (by omega) hp (hF.up (by simp)) (fun k hk' => by rw [up_nk hk', hk k hk']) (up_same _ _ _ _) (fun x x0 x1 => ?_) (fun τ2 o2 hF2 hk2 hB2 => ih (r + 1) τ2 o2 (by omega) (by omega) hF2 hk2 hB2)
      have eb : bX (up τ 96 5 r) x = bX τ x := by unfold bX; rw [up_cell (by decide)]
      rw [eb, hB x x0 x1]
      exact and_congr Iff.rfl ⟨fun ⟨v, a, b, c, e⟩ => ⟨v, a, b, c, Or.inl e⟩, fun ⟨v, a, b, c, e⟩ => ⟨v, a, b, c, by omega⟩⟩
  exact rounds 3 1 τ0 _ (by omega) (by omega) (hF0.wk (by decide)) (fun k _ => by rw [hF0.one (by decide)]) (fun x x0 x1 => ⟨fun z => absurd z (z0 x x0 x1), fun ⟨_, v, _, _, _, e⟩ => by have := rnF_b x; omega⟩)
end
