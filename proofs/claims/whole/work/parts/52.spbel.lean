theorem II.bl {σ τ : Mem} (h : II σ) (hF : Fr [115] σ τ) (hK : keep [36, 37] σ τ) : II τ := h.same (hF.wk (by decide)) (fun k hk => hK k (by simp at hk ⊢; omega))
theorem sp33 : SP33 II := by
  intro E σ s w hI hR hs hw
  obtain ⟨T, f, e6, hT, hH, hP, hc2, hS, hM, hf, hTr, hPa⟩ := hI.ex
  have t4 := hT.2.2.2.1
  have p3 : σ 2 3 = T 4 := hP.2.2.1
  have e0 : up σ 115 0 0 116 = T := by rw [up_cell (by decide), e6]
  have c1 := chS_c hT (s := s) (w := 1) (n := (T 4).toNat) (by omega)
  have c0 := chS_c hT (s := s) (w := 0) (n := (T 4).toNat) (by omega)
  have e : ∀ _ : Unit, w64 (chS T s 1 (T 4).toNat + chS T s 0 (T 4).toNat) = chS T s 1 (T 4).toNat + chS T s 0 (T 4).toNat := fun _ => wid64 (by omega) (by omega)
  have M2 : ¬ (0 ≤ w ∧ w ≤ 1) → CL E y_Mod_belief 400 [vr 115, vi s, vi w] σ (fun y υ => -2 = y ∧ II υ) := fun h0 =>
    c_Mod_belief (b_Mod_belief_0 (by omega) (s_within (fun z => absurd z h0) (fun z => ⟨fun y => absurd rfl y, fun _ => ⟨rfl, hI.thr⟩⟩)))
  refine c_BC_belief (b_BC_belief_0 (by omega) ⟨fun a => M2 (by omega), fun a => ⟨fun b => s_Room_hasSet (by omega) (by omega) (fun hz => ⟨fun _ => ?_, fun z => absurd z (by decide)⟩) (fun hz => ⟨fun z => absurd rfl z, fun _ => ?_⟩), fun b => M2 (by omega)⟩⟩)
  · rw [p3] at hz
    refine s_Room_chance (by omega) hT hH hs (Or.inr rfl) (s_Room_chance (by omega) hT hH hs (Or.inl rfl) (s_commonDivisor ?_))
    rw [e ()]
    have M : ∀ x, (chS T s 1 (T 4).toNat + chS T s 0 (T 4).toNat = 0 → x = 0) → (¬ chS T s 1 (T 4).toNat + chS T s 0 (T 4).toNat = 0 → (w = 0 → x = w64 (Int.tdiv (chS T s 1 (T 4).toNat) (gcS 200 (chS T s 1 (T 4).toNat) (chS T s 1 (T 4).toNat + chS T s 0 (T 4).toNat)))) ∧ (w ≠ 0 → x = w64 (Int.tdiv (chS T s 1 (T 4).toNat + chS T s 0 (T 4).toNat) (gcS 200 (chS T s 1 (T 4).toNat) (chS T s 1 (T 4).toNat + chS T s 0 (T 4).toNat))))) → CL E y_Mod_belief 400 [vr 115, vi s, vi w] σ (fun y υ => x = y ∧ II υ) := by
      intro x x0 x1
      refine c_Mod_belief (b_Mod_belief_0 (by omega) (s_within (fun z => ⟨fun _ => ?_, fun y => absurd y (by decide)⟩) (fun z => absurd ⟨a, b⟩ z)))
      refine s_isSet (by omega) (by rw [e0]; exact t4) (fun _ => ⟨fun _ => ?_, fun z => absurd z (by decide)⟩) (fun z => absurd hz (by rw [e0] at z; exact z))
      refine t_laysBelief (by omega) hT e0 hs (fun τ hF hK h36 h37 => ?_)
      have fin := hI.thr.bl hF hK
      rw [lcm_ne, lcm_eq, h36, h37, e ()]
      refine ⟨fun z => ?_, fun z => ⟨x0 z, fin⟩⟩
      have gp : gcS 200 (chS T s 1 (T 4).toNat) (chS T s 1 (T 4).toNat + chS T s 0 (T 4).toNat) ≠ 0 := by
        have h1 : gcS 200 (chS T s 1 (T 4).toNat) (chS T s 1 (T 4).toNat + chS T s 0 (T 4).toNat) = gcS 199 (chS T s 1 (T 4).toNat + chS T s 0 (T 4).toNat) (Int.tmod (chS T s 1 (T 4).toNat) (chS T s 1 (T 4).toNat + chS T s 0 (T 4).toNat)) := if_neg z
        rw [h1]
        have := gcS_p 199 (a := chS T s 1 (T 4).toNat + chS T s 0 (T 4).toNat) (b := Int.tmod (chS T s 1 (T 4).toNat) (chS T s 1 (T 4).toNat + chS T s 0 (T 4).toNat)) (by omega) (tmod_b c1.1 (by omega)).1
        omega
      refine s_common 48 (m := 200) c1.1 (by omega) (by rw [show (2 : Int) ^ 48 = 281474976710656 by decide]; omega) (by omega) (by omega) ?_
      rw [h36]
      exact ⟨fun n0 => ⟨gp, (x1 z).2 n0, fin⟩, fun n0 => ⟨gp, (x1 z).1 n0, fin⟩⟩
    rw [lcm_ne, lcm_eq]
    refine ⟨fun z => ?_, fun z => ?_⟩
    · have hne : ¬ chS T s 1 (T 4).toNat + chS T s 0 (T 4).toNat = 0 := by
        intro y
        have z1 : chS T s 1 (T 4).toNat = 0 := by omega
        rw [y, z1, gcS_0] at z; exact z rfl
      exact ⟨fun n0 => ⟨z, M _ (fun y => absurd y hne) (fun _ => ⟨fun y => absurd y n0, fun _ => rfl⟩)⟩, fun n0 => ⟨z, M _ (fun y => absurd y hne) (fun _ => ⟨fun _ => rfl, fun y => absurd n0 y⟩)⟩⟩
    · refine M _ (fun _ => rfl) (fun y => ?_)
      exfalso
      have h1 : gcS 200 (chS T s 1 (T 4).toNat) (chS T s 1 (T 4).toNat + chS T s 0 (T 4).toNat) = gcS 199 (chS T s 1 (T 4).toNat + chS T s 0 (T 4).toNat) (Int.tmod (chS T s 1 (T 4).toNat) (chS T s 1 (T 4).toNat + chS T s 0 (T 4).toNat)) := if_neg y
      rw [h1] at z
      have := gcS_p 199 (a := chS T s 1 (T 4).toNat + chS T s 0 (T 4).toNat) (b := Int.tmod (chS T s 1 (T 4).toNat) (chS T s 1 (T 4).toNat + chS T s 0 (T 4).toNat)) (by omega) (tmod_b c1.1 (by omega)).1
      omega
  · rw [p3] at hz
    exact c_Mod_belief (b_Mod_belief_0 (by omega) (s_within (fun z => ⟨fun _ => s_isSet (by omega) (by rw [e0]; exact t4) (fun z => absurd z (by rw [e0]; exact hz)) (fun z => ⟨fun y => absurd rfl y, fun _ => ⟨rfl, hI.thr⟩⟩), fun y => absurd y (by decide)⟩) (fun z => absurd ⟨a, b⟩ z)))
theorem sp34 : SP34 II := by
  intro E σ hI hR
  obtain ⟨T, f, e6, hT, hH, hP, hc2, hS, hM, hf, hTr, hPa⟩ := hI.ex
  have e0 : up σ 115 0 0 116 = T := by rw [up_cell (by decide), e6]
  have f0 : i32 (f 0) := by have := hf.1; unfold i32; omega
  refine c_BC_now (b_BC_now_0 (by omega) ?_)
  rw [hS.1]
  refine s_Room_believed (by omega) hT hH f0 (c_Mod_now (b_Mod_now_0 (by omega) ?_))
  rw [hM.at.1]
  exact t_beliefOf (by omega) hT e0 f0 (fun τ hF hK => ⟨rfl, hI.thr.bl hF hK⟩)
/-- the letter that tells most, of the first n, and how much -/
def tmS2 (T : Int → Int) (rd : Int) : Nat → Int × Int
  | 0 => (-1, 0)
  | n + 1 => if bt rd n = 0 ∧ blF T (ior rd (ish 1 n)) ≠ -1 ∧ (tmS2 T rd n).2 < (if blF T (ior rd (ish 1 n)) - blF T rd < 0 then -(blF T (ior rd (ish 1 n)) - blF T rd) else blF T (ior rd (ish 1 n)) - blF T rd) then ((n : Int), if blF T (ior rd (ish 1 n)) - blF T rd < 0 then -(blF T (ior rd (ish 1 n)) - blF T rd) else blF T (ior rd (ish 1 n)) - blF T rd) else tmS2 T rd n
theorem tmS2_b {T : Int → Int} {rd : Int} : ∀ n : Nat, 0 ≤ (tmS2 T rd n).2
  | 0 => by simp [tmS2]
  | n + 1 => by
    have ih := tmS2_b (T := T) (rd := rd) n
    have gen : ∀ (c : Prop) [Decidable c] (a b : Int × Int), 0 ≤ a.2 → 0 ≤ b.2 → 0 ≤ (if c then a else b).2 := fun c _ a b ha hb => by split <;> assumption
    refine gen _ _ _ ?_ ih
    show 0 ≤ (if blF T (ior rd (ish 1 (n : Int))) - blF T rd < 0 then -(blF T (ior rd (ish 1 (n : Int))) - blF T rd) else blF T (ior rd (ish 1 (n : Int))) - blF T rd)
    split <;> omega
theorem sp35 : SP35 II := by
  intro E σ hI hR
  obtain ⟨T, f, e6, hT, hH, hP, hc2, hS, hM, hf, hTr, hPa⟩ := hI.ex
  have t4 := hT.2.2.2.1
  have p3 : σ 2 3 = T 4 := hP.2.2.1
  have e0 : up σ 115 0 0 116 = T := by rw [up_cell (by decide), e6]
  have f0 : i32 (f 0) := by have := hf.1; unfold i32; omega
  have m0 : T 79 = f 0 := by rw [← e6]; exact hM.at.1
  have bb := blF_b hT (s := f 0)
  have M : ∀ x, (blF T (f 0) = -1 → x = -1) → (blF T (f 0) ≠ -1 → x = (tmS2 T (f 0) (T 4).toNat).1) → CI E y_Mod_tellsMost 400 [vr 115] σ (fun y υ => x = y ∧ II υ) := by
    intro x x0 x1
    refine c_Mod_tellsMost (b_Mod_tellsMost_0 (by omega) ?_)
    rw [hM.at.1]
    refine t_beliefOf (by omega) hT e0 f0 (fun τ hF hK => ?_)
    have loop : ∀ (m i : Nat) (τ : Mem) (o5 o6 : Option AV), (i : Int) + m = T 4 → Fr [115] (up σ 115 0 0) τ → keep [36, 37] (up σ 115 0 0) τ → (blF T (f 0) = -1 → i = 0) → Z E y_Mod_tellsMost 400 24 [some (vr 115), some (vi (blF T (f 0))), some (vi (tmS2 T (f 0) i).1), some (vi (tmS2 T (f 0) i).2), some (vi (i : Int)), o5, o6] [] τ (qi fun y υ => x = y ∧ II υ) := by
      intro m
      induction m with
      | zero =>
        intro i τ o5 o6 hi hF hK h1
        have t6 : τ 116 = T := by rw [hF.one (by decide), e0]
        have fin := hI.thr.bl hF hK
        refine b_Mod_tellsMost_24 (by omega) ⟨fun _ => ⟨?_, fin⟩, fun z => absurd z (by rw [t6]; omega)⟩
        by_cases e : blF T (f 0) = -1
        · rw [x0 e, h1 e]; rfl
        · rw [x1 e, show i = (T 4).toNat by omega]
      | succ m ih =>
        intro i τ o5 o6 hi hF hK h1
        have t6 : τ 116 = T := by rw [hF.one (by decide), e0]
        have fin := hI.thr.bl hF hK
        have t0 := tmS2_b (T := T) (rd := f 0) i
        refine b_Mod_tellsMost_24 (by omega) ⟨fun z => absurd z (by rw [t6]; omega), fun _ => ⟨fun e => ⟨?_, fin⟩, fun e => ?_⟩⟩
        · rw [x0 e, h1 e]; rfl
        · have nx := fun τ o5 o6 a b => ih (i + 1) τ o5 o6 (by omega) a b (fun z => absurd z e)
          simp only [tmS2] at nx
          have b2 := blF_b hT (s := ior (f 0) (ish 1 (i : Int)))
          rw [t6, m0]
          refine s_isIn (i32_64 f0) (by omega) ⟨fun e1 => ?_, fun e1 => ?_⟩
          · rw [t6, m0]
            refine t_beliefOf (by omega) hT t6 (ior_i32 _ _) (fun τ2 hF2 hK2 => ?_)
            have nx2 := fun o5 o6 => nx τ2 o5 o6 (hF.tr hF2) (hK.tr hK2)
            have go : ∀ s0, (s0 = if blF T (ior (f 0) (ish 1 (i : Int))) = -1 then 0 else if blF T (ior (f 0) (ish 1 (i : Int))) - blF T (f 0) < 0 then -(blF T (ior (f 0) (ish 1 (i : Int))) - blF T (f 0)) else blF T (ior (f 0) (ish 1 (i : Int))) - blF T (f 0)) → ∀ o5 o6, Z E y_Mod_tellsMost 400 104 [some (vr 115), some (vi (blF T (f 0))), some (vi (tmS2 T (f 0) i).1), some (vi (tmS2 T (f 0) i).2), some (vi (i : Int)), o5, o6] [vi s0] τ2 (qi fun y υ => x = y ∧ II υ) := by
              intro s0 hs0 o5 o6
              refine b_Mod_tellsMost_104 ⟨fun z => ?_, fun z => ?_⟩
              · have hb : blF T (ior (f 0) (ish 1 (i : Int))) ≠ -1 := fun y => by rw [if_pos y] at hs0; omega
                rw [if_neg hb] at hs0
                have := nx2 none (some (vi s0))
                rw [if_pos ⟨e1, hb, by rw [← hs0]; exact z⟩] at this
                rw [wid (x := (i : Int) + 1) (by omega) (by omega)]
                simp only at this
                rw [← hs0] at this
                exact this
              · have := nx2 none (some (vi s0))
                rw [if_neg (fun y => by rw [if_neg y.2.1] at hs0; rw [← hs0] at y; have := y.2.2; omega)] at this
                rw [wid (x := (i : Int) + 1) (by omega) (by omega)]
                exact this
            refine ⟨fun hn => ⟨fun hle => ?_, fun hlt => ?_⟩, fun he => go 0 (by rw [if_pos he]) _ _⟩
            · rw [wid (by omega) (by omega)]; exact go _ (by rw [if_neg hn, if_neg (by omega)]) _ _
            · rw [wid (by omega) (by omega)]; exact go _ (by rw [if_neg hn, if_pos (by omega)]; omega) _ _
          · have := nx τ o5 o6 hF hK
            rw [if_neg (fun z => e1 z.1)] at this
            rw [wid (x := (i : Int) + 1) (by omega) (by omega)]
            exact this
    exact loop (T 4).toNat 0 τ _ _ (by omega) hF hK (fun _ => rfl)
  refine c_BC_tellsMost (b_BC_tellsMost_0 (by omega) ?_)
  rw [hS.1]
  refine s_Room_believed (by omega) hT hH f0 ⟨fun hne => ?_, fun he => M _ (fun _ => rfl) (fun z => absurd he z)⟩
  have loop : ∀ (m i : Nat) (o5 o6 : Option AV), (i : Int) + m = T 4 → Z E y_BC_tellsMost 400 29 [some (vr 0), some (vi (blF T (f 0))), some (vi (tmS2 T (f 0) i).1), some (vi (tmS2 T (f 0) i).2), some (vi (i : Int)), o5, o6] [] σ (qi fun x τ => CI E y_Mod_tellsMost 400 [vr 115] τ (fun y υ => x = y ∧ II υ)) := by
    intro m
    induction m with
    | zero =>
      intro i o5 o6 hi
      refine b_BC_tellsMost_29 (by omega) ⟨fun _ => M _ (fun z => absurd z hne) (fun _ => by rw [show i = (T 4).toNat by omega]), fun z => absurd z (by omega)⟩
    | succ m ih =>
      intro i o5 o6 hi
      have nx := fun o5 o6 => ih (i + 1) o5 o6 (by omega)
      simp only [tmS2] at nx
      have b2 := blF_b hT (s := ior (f 0) (ish 1 (i : Int)))
      refine b_BC_tellsMost_29 (by omega) ⟨fun z => absurd z (by omega), fun _ => ?_⟩
      rw [hS.1]
      refine s_Room_believed (by omega) hT hH (ior_i32 _ _) ?_
      rw [hS.1, bit_eq f0 (by omega)]
      refine ⟨fun e => ?_, fun e => ?_⟩
      · refine b_BC_tellsMost_82 (by omega) ⟨fun _ => ?_, fun z => absurd rfl z⟩
        have := nx (some (vi (blF T (ior (f 0) (ish 1 (i : Int)))))) (some (vi 0))
        rw [if_neg (fun z => e z.1)] at this
        rw [wid (x := (i : Int) + 1) (by omega) (by omega)]; exact this
      · refine b_BC_tellsMost_82 (by omega) ⟨fun z => absurd z (by decide), fun _ => ⟨fun e2 => ?_, fun e2 => ?_⟩⟩
        · have := nx (some (vi (blF T (ior (f 0) (ish 1 (i : Int)))))) (some (vi 1))
          rw [if_neg (fun z => z.2.1 e2)] at this
          rw [wid (x := (i : Int) + 1) (by omega) (by omega)]; exact this
        · rw [wid (x := blF T (ior (f 0) (ish 1 (i : Int))) - blF T (f 0)) (by omega) (by omega), wid (x := (i : Int) + 1) (by omega) (by omega)]
          refine s_Math_abs (by omega) ⟨fun e3 => ?_, fun e3 => s_Math_abs (by omega) ?_⟩
          · have := nx (some (vi (blF T (ior (f 0) (ish 1 (i : Int)))))) (some (vi 1))
            rw [if_neg (fun z => absurd z.2.2 (Int.not_lt.mpr e3))] at this
            exact this
          · have := nx (some (vi (blF T (ior (f 0) (ish 1 (i : Int)))))) (some (vi 1))
            rw [if_pos ⟨e, e2, e3⟩] at this
            exact this
  exact loop (T 4).toNat 0 _ _ (by omega)
