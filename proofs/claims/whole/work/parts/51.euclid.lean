section
variable {E : EN} {d : Nat} {σ : Mem} {T : Int → Int}
/-- EUCLID, of at most n steps -/
def gcS : Nat → Int → Int → Int
  | 0, a, _ => a
  | n + 1, a, b => if b = 0 then a else gcS n b (Int.tmod a b)
theorem gcS_0 (n : Nat) (a : Int) : gcS n a 0 = a := by cases n <;> simp [gcS]
theorem tmod_b {a b : Int} (ha : 0 ≤ a) (hb : 0 < b) : 0 ≤ Int.tmod a b ∧ Int.tmod a b < b := by
  rw [Int.tmod_eq_emod_of_nonneg ha]
  exact ⟨Int.emod_nonneg _ (by omega), Int.emod_lt_of_pos _ hb⟩
theorem gcS_p : ∀ (n : Nat) {a b : Int}, 0 < a → 0 ≤ b → 0 < gcS n a b
  | 0, a, b, ha, hb => ha
  | n + 1, a, b, ha, hb => by
    simp only [gcS]; split
    · exact ha
    · exact gcS_p n (by omega) (tmod_b (by omega) (by omega)).1
theorem s_commonDivisor {K : Int → Mem → Prop} {a b : Int} (q : K (gcS 200 a b) σ) : CL E y_BC_commonDivisor d [vl a, vl b] σ K := by
  refine c_BC_commonDivisor (b_BC_commonDivisor_0 ?_)
  have loop : ∀ (m : Nat) (i h l : Int) (o0 o1 o2 o3 o5 o7 o9 o10 : Option AV), 0 ≤ i → i + m = 200 → K (gcS m h l) σ → Z E y_BC_commonDivisor d 9 [o0, o1, o2, o3, some (vl h), o5, some (vl l), o7, some (vi i), o9, o10] [] σ (ql K) := by
    intro m
    induction m with
    | zero =>
      intro i h l o0 o1 o2 o3 o5 o7 o9 o10 h0 hi q
      exact b_BC_commonDivisor_9 (b0 := 0) (b2 := 0) ⟨fun _ => q, fun z => absurd z (by omega)⟩
    | succ m ih =>
      intro i h l o0 o1 o2 o3 o5 o7 o9 o10 h0 hi q
      simp only [gcS] at q
      refine b_BC_commonDivisor_9 (b0 := 0) (b2 := 0) ⟨fun z => absurd z (by omega), fun _ => ?_⟩
      rw [lcm_eq, lcm_ne, wid (x := i + 1) (by omega) (by omega)]
      refine ⟨fun e => ?_, fun e => ⟨e, ?_⟩⟩
      · rw [if_pos e] at q; exact q
      · rw [if_neg e] at q; exact ih (i + 1) l _ _ _ _ _ _ _ _ _ (by omega) (by omega) q
  exact loop 200 0 a b _ _ _ _ _ _ _ _ (by omega) (by omega) q
theorem s_common {K : Int → Mem → Prop} : ∀ (j : Nat) {a b : Int} {d m : Nat}, 0 ≤ a → 0 ≤ b → b < 2 ^ j → 2 * j + 2 ≤ d → 2 * j + 2 ≤ m → K (gcS m a b) σ → CL E y_Mod_common d [vl a, vl b] σ K
  | 0, a, b, d, m, ha, hb, hj, hd, hm, q => by
    have : b = 0 := by simp at hj; omega
    subst this
    rw [gcS_0] at q
    exact c_Mod_common (b_Mod_common_0 (by omega) ⟨fun z => absurd rfl (lcm_ne.mp z), fun _ => q⟩)
  | j + 1, a, b, d, m, ha, hb, hj, hd, hm, q => by
    have e2 : (2 : Int) ^ (j + 1) = 2 ^ j * 2 := Int.pow_succ ..
    refine c_Mod_common (b_Mod_common_0 (by omega) ⟨fun z => ?_, fun z => ?_⟩)
    · have bn := lcm_ne.mp z
      obtain ⟨m1, rfl⟩ : ∃ m1, m = m1 + 1 := ⟨m - 1, by omega⟩
      simp only [gcS] at q
      rw [if_neg bn] at q
      have r := tmod_b ha (show 0 < b by omega)
      generalize Int.tmod a b = c at q r ⊢
      refine ⟨bn, c_Mod_common (b_Mod_common_0 (by omega) ⟨fun z2 => ?_, fun z2 => ?_⟩)⟩
      · have cn := lcm_ne.mp z2
        obtain ⟨m2, rfl⟩ : ∃ m2, m1 = m2 + 1 := ⟨m1 - 1, by omega⟩
        simp only [gcS] at q
        rw [if_neg cn] at q
        have r2 := tmod_b hb (show 0 < c by omega)
        refine ⟨cn, s_common j (m := m2) r.1 r2.1 ?_ (by omega) (by omega) q⟩
        have hh : Int.tmod b c < 2 ^ j := by
          rcases Int.lt_or_le (2 * c) b with y | y
          · omega
          · rw [Int.tmod_eq_emod_of_nonneg hb] at r2 ⊢
            have hb2 : b % c = b - c * (b / c) := by have := Int.emod_add_mul_ediv b c; omega
            have hq : 1 ≤ b / c := by rw [Int.le_ediv_iff_mul_le (by omega)]; omega
            have : c * 1 ≤ c * (b / c) := Int.mul_le_mul_of_nonneg_left hq r.1
            omega
        exact hh
      · have c0 := lcm_eq.mp z2
        subst c0
        rw [gcS_0] at q; exact q
    · have b0 := lcm_eq.mp z
      subst b0
      rw [gcS_0] at q; exact q
/-- what is believed, in ten thousandths -/
def blF (T : Int → Int) (s : Int) : Int := if chS T s 1 (T 4).toNat + chS T s 0 (T 4).toNat = 0 then -1 else Int.tdiv (chS T s 1 (T 4).toNat * 10000) (chS T s 1 (T 4).toNat + chS T s 0 (T 4).toNat)
theorem blF_b {T : Int → Int} (hT : MT T) {s : Int} : -1 ≤ blF T s ∧ blF T s ≤ 10000 := by
  have t4 := hT.2.2.2.1
  have c1 := chS_c hT (s := s) (w := 1) (n := (T 4).toNat) (by omega)
  have c0 := chS_c hT (s := s) (w := 0) (n := (T 4).toNat) (by omega)
  unfold blF
  split
  · omega
  · rename_i z
    rw [Int.tdiv_eq_ediv_of_nonneg (by omega)]
    have a := Int.ediv_nonneg (a := chS T s 1 (T 4).toNat * 10000) (b := chS T s 1 (T 4).toNat + chS T s 0 (T 4).toNat) (by omega) (by omega)
    have b : chS T s 1 (T 4).toNat * 10000 / (chS T s 1 (T 4).toNat + chS T s 0 (T 4).toNat) < 10001 := by
      rw [Int.ediv_lt_iff_lt_mul (by omega)]; omega
    omega
theorem bl_w {T : Int → Int} (hT : MT T) {s : Int} (h : ¬ chS T s 1 (T 4).toNat + chS T s 0 (T 4).toNat = 0) : w32 (w64 (Int.tdiv (w64 (chS T s 1 (T 4).toNat * 10000)) (w64 (chS T s 1 (T 4).toNat + chS T s 0 (T 4).toNat)))) = blF T s := by
  have t4 := hT.2.2.2.1
  have c1 := chS_c hT (s := s) (w := 1) (n := (T 4).toNat) (by omega)
  have c0 := chS_c hT (s := s) (w := 0) (n := (T 4).toNat) (by omega)
  have b := blF_b hT (s := s)
  rw [wid64 (x := chS T s 1 (T 4).toNat * 10000) (by omega) (by omega), wid64 (x := chS T s 1 (T 4).toNat + chS T s 0 (T 4).toNat) (by omega) (by omega)]
  have e : Int.tdiv (chS T s 1 (T 4).toNat * 10000) (chS T s 1 (T 4).toNat + chS T s 0 (T 4).toNat) = blF T s := by unfold blF; rw [if_neg h]
  rw [e, wid64 (by omega) (by omega), wid (by omega) (by omega)]
theorem s_Room_believed {K : Int → Mem → Prop} {s : Int} (hd : 3 ≤ d) (hT : MT T) (hP : HR σ 2 T) (hs : i32 s) (q : K (blF T s) σ) : CI E y_Room_believed d [vr 2, vi s] σ K := by
  have t4 := hT.2.2.2.1
  have c1 := chS_c hT (s := s) (w := 1) (n := (T 4).toNat) (by omega)
  have c0 := chS_c hT (s := s) (w := 0) (n := (T 4).toNat) (by omega)
  refine c_Room_believed (b_Room_believed_0 (Or.inl rfl) (by omega) (s_Room_chance (by omega) hT hP hs (Or.inr rfl) (s_Room_chance (by omega) hT hP hs (Or.inl rfl) ?_)))
  have e := wid64 (x := chS T s 1 (T 4).toNat + chS T s 0 (T 4).toNat) (by omega) (by omega)
  rw [lcm_ne, lcm_eq]
  refine ⟨fun z => ⟨z, ?_⟩, fun z => ?_⟩
  · rw [e] at z; rw [bl_w hT z]; exact q
  · rw [e] at z; unfold blF at q; rw [if_pos z] at q; exact q
theorem t_beliefOf {K : Int → Mem → Prop} {s : Int} (hd : 3 ≤ d) (hT : MT T) (e6 : σ 116 = T) (hs : i32 s) (q : ∀ τ : Mem, Fr [115] σ τ → keep [36, 37] σ τ → K (blF T s) τ) : CI E y_Mod_beliefOf d [vr 115, vi s] σ K := by
  have t4 := hT.2.2.2.1
  have c1 := chS_c hT (s := s) (w := 1) (n := (T 4).toNat) (by omega)
  have c0 := chS_c hT (s := s) (w := 0) (n := (T 4).toNat) (by omega)
  refine c_Mod_beliefOf (b_Mod_beliefOf_0 (by omega) (t_laysBelief (by omega) hT e6 hs (fun τ hF hK h36 h37 => ?_)))
  have e := wid64 (x := chS T s 1 (T 4).toNat + chS T s 0 (T 4).toNat) (by omega) (by omega)
  have q := q τ hF hK
  rw [lcm_ne, lcm_eq, h36, h37]
  refine ⟨fun z => ⟨z, ?_⟩, fun z => ?_⟩
  · rw [e] at z; rw [bl_w hT z]; exact q
  · rw [e] at z; unfold blF at q; rw [if_pos z] at q; exact q
end
