/-! the class's Row: isBetterSwapped, and the planner's soonest -/
section
variable {E : EN} {d : Nat} {σ : Mem} {w : Nat} {g : GG} {R : RL}
theorem s_Row_isBetterSwapped {K : Int → Mem → Prop} {b : Int × Int} (hw : isRow w) (hR : RowC σ w g (b :: R)) (q1 : BSw g b R → K 1 σ) (q0 : ¬ BSw g b R → K 0 σ) : CI E y_Row_isBetterSwapped d [vr w] σ K := by
  refine c_Row_isBetterSwapped (b_Row_isBetterSwapped_0 hw ?_)
  obtain ⟨h1, h2, -, h4, -, h6, -⟩ := hR
  cases R with
  | nil => rw [h1]; exact ⟨fun _ => q0 (fun z => z), fun z => absurd z (by simp)⟩
  | cons a R =>
    have l2 : R.length + 2 ≤ 6 := h2
    have hs : σ w 1 = (R.length : Int) + 2 := by rw [h1]; simp only [List.length_cons]; omega
    have il : (((a :: R).length : Nat) : Int) = (R.length : Int) + 1 := by simp only [List.length_cons]; omega
    have ol : σ (w + 3) ((R.length : Int) + 1) = opn g R + g.1 a.1 + g.1 b.1 := by rw [← il]; exact h4.2.2.1
    have bl : σ (w + 2) ((R.length : Int) + 1) = b.2 := by rw [← il]; exact h4.2.1
    have fl : σ (w + 6) ((R.length : Int) + 1) = fre g (a :: R) b.2 := by rw [← il]; exact h6.1
    have oa : σ (w + 3) (R.length : Int) = opn g R + g.1 a.1 := h4.2.2.2.2.2.2.1
    have ba : σ (w + 2) (R.length : Int) = a.2 := h4.2.2.2.2.2.1
    have fa : σ (w + 6) (R.length : Int) = fre g R a.2 := h6.2.1
    have last : ∀ s0 v u : Int, (v ≠ 0 ↔ (opn g R + g.1 a.1 + g.1 b.1 ≤ fre g R a.2 ∨ g.1 b.1 = 0)) → (a.2 ≠ b.2 → (u ≠ 0 ↔ (opn g R + g.1 a.1 + g.1 b.1 ≤ fre g R b.2 ∨ g.1 a.1 = 0))) → Z E y_Row_isBetterSwapped d 117 [some (vr w), some (vi ((R.length : Int) + 1)), some (vi (R.length : Int)), some (vi s0), some (vi v), none] [vi u] σ (qi K) := by
      intro s0 v u hv hu
      refine b_Row_isBetterSwapped_117 hw ⟨⟨by omega, by omega⟩, ⟨by omega, by omega⟩, ?_⟩
      rw [ba, bl]
      refine ⟨fun e => q0 (fun z => z.1 e), fun ne => ⟨fun v0 => q0 (fun z => hv.mpr z.2.1 v0), fun v1 => ⟨fun u0 => q1 ⟨ne, hv.mp v1, Or.inl (fun z => (hu ne).mpr z u0)⟩, fun u1 => ⟨fun le => q0 (fun z => ?_), fun lt => q1 ⟨ne, hv.mp v1, Or.inr lt⟩⟩⟩⟩⟩
      rcases z.2.2 with z | z
      · exact z ((hu ne).mp u1)
      · omega
    have mid : ∀ s0 v : Int, s0 = opn g R → (v ≠ 0 ↔ (opn g R + g.1 a.1 + g.1 b.1 ≤ fre g R a.2 ∨ g.1 b.1 = 0)) → Z E y_Row_isBetterSwapped d 85 [some (vr w), some (vi ((R.length : Int) + 1)), some (vi (R.length : Int)), some (vi s0), none, none] [vi v] σ (qi K) := by
      intro s0 v e hv
      have fb : a.2 ≠ b.2 → fre g (a :: R) b.2 = fre g R b.2 := fun ne => by show (if a.2 = b.2 then _ else _) = _; rw [if_neg ne]
      refine b_Row_isBetterSwapped_85 hw ⟨⟨by omega, by omega⟩, ?_⟩
      rw [ol, fl, oa]
      refine ⟨fun c => last s0 v 1 hv (fun ne => ⟨fun _ => Or.inl (by rw [← fb ne]; exact c), fun _ => by decide⟩), fun c => ⟨⟨by omega, by omega⟩, fun n => last s0 v 0 hv (fun ne => ⟨fun z => absurd rfl z, fun z => ?_⟩), fun n => last s0 v 1 hv (fun ne => ⟨fun _ => Or.inr (by omega), fun _ => by decide⟩)⟩⟩
      rw [fb ne] at c
      omega
    have go : ∀ s0 : Int, s0 = opn g R → Z E y_Row_isBetterSwapped d 49 [some (vr w), some (vi ((R.length : Int) + 1)), some (vi (R.length : Int)), none, none, none] [vi s0] σ (qi K) := by
      intro s0 e
      refine b_Row_isBetterSwapped_49 hw ⟨⟨by omega, by omega⟩, ⟨by omega, by omega⟩, ?_⟩
      rw [ol, fa, oa]
      refine ⟨fun c => mid s0 1 e ⟨fun _ => Or.inl c, fun _ => by decide⟩, fun c => ⟨fun n => mid s0 0 e ⟨fun z => absurd rfl z, fun z => by omega⟩, fun n => mid s0 1 e ⟨fun _ => Or.inr (by omega), fun _ => by decide⟩⟩⟩
    rw [hs]
    refine ⟨fun z => absurd z (by omega), fun _ => ⟨fun _ => ?_, fun z => absurd z (by omega)⟩⟩
    rw [wid (x := (R.length : Int) + 2 - 2) (by omega) (by omega), wid (x := (R.length : Int) + 2 - 1) (by omega) (by omega), show (R.length : Int) + 2 - 2 = R.length by omega, show (R.length : Int) + 2 - 1 = (R.length : Int) + 1 by omega]
    refine ⟨fun z => go 0 ?_, fun z => ?_⟩
    · cases R with
      | nil => rfl
      | cons y R => simp only [List.length_cons] at z; omega
    · rw [wid (x := (R.length : Int) - 1) (by omega) (by omega)]
      refine ⟨by omega, go _ ?_⟩
      cases R with
      | nil => simp at z
      | cons y R =>
        have : (((y :: R).length : Nat) : Int) - 1 = R.length := by simp only [List.length_cons]; omega
        rw [this]
        exact h4.2.2.2.2.2.2.2.2.2.2.1
/-- the planner's table of soonest ends, for the hands A -/
theorem s_Plan_soonest {K : Int → Mem → Prop} {A S : Int} (hA : 0 ≤ A ∧ A < 8) (h4 : σ 92 4 = 64 * A) (hS : 0 ≤ S ∧ S < 64) (q : K (σ 13 (64 * A + S)) σ) : CI E y_Plan_soonest d [vr 92, vi S] σ K := by
  refine c_Plan_soonest (b_Plan_soonest_0 ⟨fun z => absurd z (by omega), fun _ => ⟨fun z => absurd z (by omega), fun _ => ?_⟩⟩)
  rw [h4, wid (by omega) (by omega)]
  exact ⟨by omega, q⟩
end
