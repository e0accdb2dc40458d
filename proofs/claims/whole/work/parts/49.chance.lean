section
variable {E : EN} {d : Nat} {σ : Mem} {T : Int → Int}
theorem s_Room_chance {K : Int → Mem → Prop} {s w : Int} (hd : 2 ≤ d) (hT : MT T) (hP : HR σ 2 T) (hs : i32 s) (hw : w = 0 ∨ w = 1) (q : K (chS T s w (T 4).toNat) σ) : CL E y_Room_chance d [vr 2, vi s, vi w] σ K := by
  have h2r : isRoom 2 := Or.inl rfl
  have t4 := hT.2.2.2.1
  have t5 := hT.2.2.2.2.1
  have p3 : σ 2 3 = T 4 := hP.1.2.2.2.1
  have p5 : σ 2 5 = T 5 := hP.1.2.2.2.2.2.1
  have loop : ∀ (m i : Nat) (o4 o6 o7 o8 : Option AV), (i : Int) + m = T 4 → Z E y_Room_chance d 24 [some (vr 2), some (vi s), some (vi w), some (vl (chS T s w i)), o4, some (vi (i : Int)), o6, o7, o8] [] σ (ql K) := by
    intro m
    induction m with
    | zero =>
      intro i o4 o6 o7 o8 hi
      refine b_Room_chance_24 h2r (by omega) ⟨fun _ => ?_, fun z => absurd z (by omega)⟩
      have : i = (T 4).toNat := by omega
      rw [this]; exact q
    | succ m ih =>
      intro i o4 o6 o7 o8 hi
      have cb := chS_c hT (s := s) (w := w) (n := i) (by omega)
      have h1 := (hT.2.2.2.2.2.2.2.2.2.1 i (by omega) (by omega)).1
      have h2 := hT.2.2.2.2.2.2.2.2.1 (T (37 + (i : Int))) h1.1 h1.2
      have t3 := hT.2.2.1
      have fb := fcF_b hT (w := w) (k := i) (by omega)
      have e0 : σ (2 + 4) (7 * (i : Int) + 0) = T (37 + (i : Int)) := by
        rw [hP.2.2.2.1 i 0 (by omega) (by omega) (by omega) (by omega)]; congr 1
      have e6 : σ (2 + 4) (7 * (i : Int) + 6) = T (73 + (i : Int)) := by
        rw [hP.2.2.2.1 i 6 (by omega) (by omega) (by omega) (by omega)]; congr 1
      have e3 : σ (2 + 3) (T (37 + (i : Int))) = T (33 + T (37 + (i : Int))) := hP.2.2.1 _ h1.1 h1.2
      have nx := fun o4 o6 o7 o8 => ih (i + 1) o4 o6 o7 o8 (by omega)
      simp only [chS] at nx
      have mid : ∀ s0 : Int, (s0 = 0 ↔ (bt s i = 0 ∨ T (73 + (i : Int)) = 0)) → (s0 ≠ 0 → s0 = T (73 + (i : Int))) → Z E y_Room_chance d 54 [some (vr 2), some (vi s), some (vi w), some (vl (chS T s w i)), o4, some (vi (i : Int)), o6, o7, o8] [vi s0] σ (ql K) := by
        intro s0 hz hv
        refine b_Room_chance_54 h2r (by omega) (s_Room_fact (by omega) h2r (by omega) (by omega) (by omega) ?_)
        rw [e0, wid (x := (i : Int) + 1) (by omega) (by omega)]
        refine ⟨fun z => ?_, fun z => ⟨fun y => absurd y (by omega), fun _ => ⟨fun y => absurd y (by omega), fun _ => ?_⟩⟩⟩
        · have := nx none (some (vi s0)) (some (vi (T (37 + (i : Int))))) o8
          rw [if_pos (hz.mp z)] at this; exact this
        · have hc : ¬ (bt s i = 0 ∨ T (73 + (i : Int)) = 0) := fun y => z (hz.mpr y)
          have es := hv z
          have fin : ∀ s1 : Int, (s1 = 0 ∧ fcF T w i = 100 - T (33 + T (37 + (i : Int)))) ∨ (s1 = 1 ∧ fcF T w i = T (33 + T (37 + (i : Int)))) → Z E y_Room_chance d 101 [some (vr 2), some (vi s), some (vi w), some (vl (chS T s w i)), o4, some (vi (i : Int)), some (vi s0), some (vi (T (37 + (i : Int)))), o8] [vi s1] σ (ql K) := by
            intro s1 h
            refine b_Room_chance_101 h2r ⟨fun y => ⟨by omega, ?_⟩, fun y => ⟨by omega, ?_⟩⟩
            · have ef : fcF T w i = 100 - T (33 + T (37 + (i : Int))) := by omega
              have := nx none (some (vi s0)) (some (vi (T (37 + (i : Int))))) (some (vi s1))
              rw [if_neg hc, ef] at this
              rw [e3, wid (x := (i : Int) + 1) (by omega) (by omega), wid (x := 100 - T (33 + T (37 + (i : Int)))) (by omega) (by omega), wid2 cb (by omega)]
              exact this
            · have ef : fcF T w i = T (33 + T (37 + (i : Int))) := by omega
              have := nx none (some (vi s0)) (some (vi (T (37 + (i : Int))))) (some (vi s1))
              rw [if_neg hc, ef] at this
              rw [e3, wid (x := (i : Int) + 1) (by omega) (by omega), wid2 cb (by omega)]
              exact this
          refine ⟨fun n1 => ⟨fun y => fin 0 (Or.inl ⟨rfl, ?_⟩), fun y => fin 1 (Or.inr ⟨rfl, ?_⟩)⟩, fun n1 => ⟨fun y => fin 0 (Or.inl ⟨rfl, ?_⟩), fun y => fin 1 (Or.inr ⟨rfl, ?_⟩)⟩⟩
          · unfold fcF; rw [if_neg (by omega), if_pos (by omega)]
          · unfold fcF; rw [if_neg (by omega), if_neg (by omega)]
          · unfold fcF; rw [if_pos (by omega), if_neg (by omega)]
          · unfold fcF; rw [if_pos (by omega), if_pos (by omega)]
      refine b_Room_chance_24 h2r (by omega) ⟨fun z => absurd z (by omega), fun _ => ?_⟩
      rw [bit_eq hs (by omega)]
      refine ⟨fun e => mid 0 ⟨fun _ => Or.inl e, fun _ => rfl⟩ (fun z => absurd rfl z), fun e => s_Room_fact (by omega) h2r (by omega) (by omega) (by omega) ?_⟩
      rw [e6]
      exact mid _ ⟨fun z => Or.inr z, fun z => z.elim (fun y => absurd y e) id⟩ (fun _ => rfl)
  have l0 := loop (T 4).toNat 0 none none none none (by omega)
  simp only [chS] at l0
  refine c_Room_chance (b_Room_chance_0 h2r ⟨fun z => ?_, fun z => ?_⟩)
  · rw [p5, wid (x := 100 - T 5) (by omega) (by omega)]
    rw [if_neg (by omega)] at l0; exact l0
  · rw [p5]; rw [if_pos (by omega)] at l0; exact l0
end
