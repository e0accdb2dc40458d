/-! the planner: leastEnd -/
section
variable {E : EN} {d : Nat} {σ : Mem} {T : Int → Int} {R : RL}
theorem bs_b {T : Int → Int} {F : Int → Int} {s : Int} {M : Int} (hM : 0 ≤ M) : ∀ n : Nat, (∀ k : Int, 0 ≤ k → k < n → 0 ≤ F k ∧ F k ≤ M) → 0 ≤ bs F s n ∧ bs F s n ≤ M * n
  | 0, _ => by simp [bs]
  | n + 1, h => by
    have ih := bs_b (T := T) (F := F) (s := s) hM n (fun k a b => h k a (by omega))
    have hn := h n (by omega) (by omega)
    have e : M * ((n + 1 : Nat) : Int) = M * n + M := by rw [show ((n + 1 : Nat) : Int) = (n : Int) + 1 by omega, Int.mul_add, Int.mul_one]
    rw [e]
    show 0 ≤ bs F s n + (if bt s n = 0 then 0 else F n) ∧ bs F s n + (if bt s n = 0 then 0 else F n) ≤ M * n + M
    split <;> omega
theorem s_Plan_leastEnd {K : Int → Mem → Prop} {A S : Int} (hd : 2 ≤ d) (hT : MT T) (hP : HR σ 2 T) (hA : 0 ≤ A ∧ A < 8) (h4 : σ 92 4 = 64 * A) (hq : PQ σ T A) (hS : 0 ≤ S ∧ S < 64) (hSl : S ≠ 0 → ∃ j : Int, (0 ≤ j ∧ j < T 4) ∧ bt S j = 1) (hv : S ≠ 0 → IsSoon T A S (σ 13 (64 * A + S)) ∧ 0 ≤ σ 13 (64 * A + S)) (hRO : RO T A R) (hR : RowC σ 82 (gM T) R) (q : ∀ (x : Int) (τ : Mem), Fr [87] σ τ → (S = 0 → x = endV (gM T) R) → (∀ L, RO T A (L ++ R) → tkn L = S → x ≤ endV (gM T) (L ++ R)) → K x τ) : CI E y_Plan_leastEnd d [vr 92, vi S] σ K := by
  have w82 : isRow 82 := Or.inr rfl
  have hB := hP.rb hT
  have hG : HG σ (gM T) := (hP.hp hT).2.2.2.1
  have e3 : σ 2 3 = T 4 := hP.1.2.2.2.1
  have t4 := hT.2.2.2.1
  have hRb := Rb_of hT hRO.1.mem
  have e1 : σ 2 1 = T 2 := hP.1.2.1
  have gb : ∀ {R : RL}, Rb (gM T) R → ∀ x ∈ R, Gb (gM T) x := fun {R} => by
    induction R with
    | nil => exact fun _ x hx => by simp at hx
    | cons y R ih => exact fun h x hx => (List.mem_cons.mp hx).elim (fun e => by rw [e]; exact h.1) (fun m => ih h.2 x m)
  have hin : ∀ x ∈ R, inR σ x ∧ Gb (gM T) x := fun x hx => ⟨by unfold inR; rw [e3, e1]; exact hRO.1.mem x hx, gb hRb x hx⟩
  have gk : ∀ k : Int, 0 ≤ k → k < T 4 → (0 ≤ opF T k ∧ opF T k ≤ 999) ∧ (0 ≤ mdF T k ∧ mdF T k ≤ 999) := fun k k0 k1 => by
    have h61 := (hT.2.2.2.2.2.2.2.2.2.1 k k0 k1).2.2.2.2.1
    refine ⟨?_, ?_⟩
    · unfold opF; split
      · omega
      · exact clp_b (by decide)
    · unfold mdF; split
      · omega
      · exact clp_b (by decide)
  have ob := opn_b hRb
  have l6 := hR.2.1
  refine c_Plan_leastEnd (b_Plan_leastEnd_0 (by omega) ⟨fun ne => ?_, fun z => ?_⟩)
  · obtain ⟨v1, v0⟩ := hv ne
    have v2 := v1.1
    refine s_Row_lastOpened w82 hR (s_Plan_soonest hA h4 hS ?_)
    rw [wid (x := opn (gM T) R + σ 13 (64 * A + S)) (by omega) (by omega)]
    have loop : ∀ (n i : Nat) (a5 a6 : Int), i + n = (T 4).toNat → (0 ≤ a5 ∧ a5 ≤ 2147483647) → (0 ≤ a6 ∧ a6 ≤ 2147483647) → (∀ k : Int, 0 ≤ k → k < i → bt S k = 1 → a5 ≤ opn (gM T) R + opF T k + σ 94 k ∧ a6 ≤ σ 94 k + mdF T k) → Z E y_Plan_leastEnd d 45 [some (vr 92), some (vi S), some (vi (opn (gM T) R)), some (vi (opn (gM T) R + σ 13 (64 * A + S))), some (vi (opn (gM T) R + bs (gM T).1 S i)), some (vi a5), some (vi a6), some (vi (bs (gM T).2.1 S i)), some (vi (i : Nat))] [] σ (qi K) := by
      intro n
      induction n with
      | zero =>
        intro i a5 a6 hi b5 b6 hk
        have ei : i = (T 4).toNat := by omega
        subst ei
        obtain ⟨j, j0, j1⟩ := hSl ne
        have kj := hk j j0.1 (by omega) j1
        have gj := gk j j0.1 j0.2
        have qj := (hq j j0.1 j0.2).2.1
        have m6 := bs_b (T := T) (F := (gM T).2.1) (s := S) (M := 999) (by omega) (T 4).toNat (fun k a b => (gk k a (by omega)).2)
        have o6 := bs_b (T := T) (F := (gM T).1) (s := S) (M := 999) (by omega) (T 4).toNat (fun k a b => (gk k a (by omega)).1)
        refine b_Plan_leastEnd_45 (by omega) ⟨fun _ => ?_, fun z => absurd z (by omega)⟩
        refine s_Row_endWith w82 (by omega) hG hB hin hRb hR ⟨b5.1, by omega⟩ ⟨m6.1, by omega⟩ (fun x hx x0 x1 => s_Math_max (s_Math_max ?_))
        rw [wid (x := opn (gM T) R + bs (gM T).1 S (T 4).toNat + a6) (by omega) (by omega)]
        refine q _ σ Fr.rf (fun z => absurd z ne) (fun L hL eL => ?_)
        have hn : L ≠ [] := fun z => ne (by rw [← eL, z]; rfl)
        have b := least_le hT hq hn hL (by rw [eL]; exact v1) (f := a5) (bh := a6) b5.1 (fun k k0 k1 kb => hk k k0 (by omega) (by rw [← eL]; exact kb))
        rw [eL] at b
        have c := hx _ (EWb.or (fun i i0 i1 => OrdOK.uniq hR.2.2.2.2.2.2 (oF_ok (gM T) R) i.toNat i (by omega) i1) b.2.2)
        have b1 := b.1
        have b2 := b.2.1
        omega
      | succ n ih =>
        intro i a5 a6 hi b5 b6 hk
        have gi := gk i (by omega) (by omega)
        have qi_ := (hq i (by omega) (by omega)).2.1
        have hg := hG.1 i (by omega) (by omega)
        have m6 := bs_b (T := T) (F := (gM T).2.1) (s := S) (M := 999) (by omega) i (fun k a b => (gk k a (by omega)).2)
        have o6 := bs_b (T := T) (F := (gM T).1) (s := S) (M := 999) (by omega) i (fun k a b => (gk k a (by omega)).1)
        have so : bs (gM T).1 S (i + 1) = bs (gM T).1 S i + (if bt S i = 0 then 0 else opF T i) := rfl
        have sd : bs (gM T).2.1 S (i + 1) = bs (gM T).2.1 S i + (if bt S i = 0 then 0 else mdF T i) := rfl
        have g1 : (gM T).1 i = opF T i := rfl
        have g2 : (gM T).2.1 i = mdF T i := rfl
        refine b_Plan_leastEnd_45 (by omega) ⟨fun z => absurd z (by omega), fun _ => ⟨fun z => absurd z (by omega), fun _ => ?_⟩⟩
        rw [bit_eqU (by omega), wid (x := (i : Int) + 1) (by omega) (by omega), show (i : Int) + 1 = ((i + 1 : Nat) : Int) by omega]
        refine ⟨fun z => ?_, fun z => ⟨⟨by omega, by omega⟩, s_Math_min (s_Math_min ?_)⟩⟩
        · have := ih (i + 1) a5 a6 (by omega) b5 b6 (fun k k0 k1 kb => hk k k0 (by
            rcases (show k < i ∨ k = i by omega) with y | y
            · exact y
            · rw [y, z] at kb; exact absurd kb (by decide)) kb)
          rw [so, sd, if_pos z, if_pos z, Int.add_zero, Int.add_zero] at this
          exact this
        · rw [hg.1, hg.2, g1, g2, wid (x := opn (gM T) R + opF T i) (by omega) (by omega), wid (x := opn (gM T) R + opF T i + σ 94 i) (by omega) (by omega), wid (x := σ 94 i + mdF T i) (by omega) (by omega), wid (x := opn (gM T) R + bs (gM T).1 S i + opF T i) (by omega) (by omega), wid (x := bs (gM T).2.1 S i + mdF T i) (by omega) (by omega)]
          have := ih (i + 1) (min a5 (opn (gM T) R + opF T i + σ 94 i)) (min a6 (σ 94 i + mdF T i)) (by omega) ⟨by omega, by omega⟩ ⟨by omega, by omega⟩ (fun k k0 k1 kb => by
            rcases (show k < i ∨ k = i by omega) with y | y
            · have := hk k k0 y kb; omega
            · rw [y]; omega)
          rw [so, sd, if_neg z, if_neg z, ← Int.add_assoc] at this
          exact this
    have l0 := loop (T 4).toNat 0 1000000 1000000 (by omega) ⟨by omega, by omega⟩ ⟨by omega, by omega⟩ (fun k k0 k1 => absurd k1 (by omega))
    have z1 : bs (gM T).1 S 0 = 0 := rfl
    have z2 : bs (gM T).2.1 S 0 = 0 := rfl
    rw [z1, z2, Int.add_zero] at l0
    exact l0
  · refine s_Row_end w82 (by omega) hG hB hin hRb hR (fun τ hF _ => q _ τ hF (fun _ => rfl) (fun L hL hS2 => ?_))
    exact endV_app (Rb_of hT hL.1.mem)
end
