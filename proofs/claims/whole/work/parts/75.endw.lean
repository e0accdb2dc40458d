/-! the class's Row: endWith -/
/-- work from the place i of an order on -/
def tlS (m o : Int → Int) (n i : Nat) : Int := sm (fun j => m (o j)) n - sm (fun j => m (o j)) i
theorem tlS_st {m o : Int → Int} {n i : Nat} : tlS m o n i = m (o i) + tlS m o n (i + 1) := by
  unfold tlS
  have : sm (fun j => m (o j)) (i + 1) = sm (fun j => m (o j)) i + m (o i) := rfl
  omega
theorem tlS_nd {m o : Int → Int} {n : Nat} : tlS m o n n = 0 := by unfold tlS; omega
/-- B is no sooner than the end with wk more, all of it at f -/
def EWb (c m o : Int → Int) (n : Nat) (f wk B : Int) : Prop := tlS m o n 0 + wk ≤ B ∧ (∀ i : Nat, i < n → c (o i) ≤ f → c (o i) + tlS m o n i + wk ≤ B) ∧ (∀ i : Nat, i < n → f < c (o i) → c (o i) + tlS m o n i ≤ B) ∧ (∀ i : Nat, i ≤ n → (∀ j : Nat, i ≤ j → j < n → f < c (o j)) → f + wk + tlS m o n i ≤ B)
section
variable {E : EN} {d : Nat} {σ : Mem} {w : Nat} {g : GG} {R : RL}
theorem s_Row_endWith {K : Int → Mem → Prop} {f wk : Int} (hw : isRow w) (hd : 1 ≤ d) (hG : HG σ g) (hB : RB σ 2) (hin : ∀ x ∈ R, inR σ x ∧ Gb g x) (hRb : Rb g R) (hR : RowC σ w g R) (hf : 0 ≤ f ∧ f ≤ 20000) (hk : 0 ≤ wk ∧ wk ≤ 6000) (q : ∀ x : Int, (∀ B, EWb (copAt g R) (fun p => g.2.1 (kAt R p)) (σ (w + 7)) R.length f wk B → x ≤ B) → 0 ≤ x → x ≤ 40000 → K x σ) : CI E y_Row_endWith d [vr w, vi f, vi wk] σ K := by
  obtain ⟨h1, h2, h3, h4, h5, h6, h7⟩ := hR
  have hcb := copAt_b hRb
  have hkb : ∀ p : Int, 0 ≤ p → p < R.length → (0 ≤ kAt R p ∧ kAt R p < σ 2 3) ∧ (0 ≤ g.2.1 (kAt R p) ∧ g.2.1 (kAt R p) ≤ 999) := by
    intro p p0 p1
    obtain ⟨x, hx, e, -⟩ := kAt_mem hin p p0 p1
    rw [e]; exact ⟨hx.1.1, hx.2.2.1⟩
  have up1 : ∀ i j : Nat, i ≤ j → j < R.length → copAt g R (σ (w + 7) i) ≤ copAt g R (σ (w + 7) j) := by
    intro i j a b
    by_cases e : i = j
    · rw [e]; exact Int.le_refl _
    · exact lex_le (h7.2.1 i j (by omega) (by omega) (by omega))
  have B3 := hB.2.2
  generalize hc : copAt g R = c at *
  generalize hm : (fun p => g.2.1 (kAt R p)) = m at *
  generalize ho : σ (w + 7) = o at *
  refine c_Row_endWith (b_Row_endWith_0 hw ?_)
  have loop : ∀ (n i : Nat) (t z : Int) (o6 : Option AV), i + n = R.length → 0 ≤ t → t ≤ 20000 + 6000 + 999 * (i : Int) → (z = 0 → ∀ B, EWb c m o R.length f wk B → t + wk + tlS m o R.length i ≤ B) → (z = 0 → t ≤ 20000 + 999 * (i : Int)) → (z ≠ 0 → (∀ B, EWb c m o R.length f wk B → t + tlS m o R.length i ≤ B) ∧ ∀ j : Nat, i ≤ j → j < R.length → f < c (o j)) → Z E y_Row_endWith d 8 [some (vr w), some (vi f), some (vi wk), some (vi t), some (vi z), some (vi (i : Nat)), o6] [] σ (qi K) := by
    intro n
    induction n with
    | zero =>
      intro i t z o6 hi t0 t1 z0 z0b z1
      have ei : i = R.length := by omega
      subst ei
      refine b_Row_endWith_8 hw hd ⟨fun _ => ⟨fun e => s_Math_max ?_, fun e => q t (fun B hB => ?_) t0 (by omega)⟩, fun y => absurd y (by omega)⟩
      · rw [wid (by have := z0b e; omega) (by have := z0b e; omega)]
        refine q _ (fun B hB => ?_) (by omega) (by have := z0b e; omega)
        have a := z0 e B hB
        have b := hB.2.2.2 R.length (Nat.le_refl _) (fun j a b => absurd b (by omega))
        rw [tlS_nd] at a b
        omega
      · have a := (z1 e).1 B hB
        rw [tlS_nd] at a
        omega
    | succ n ih =>
      intro i t z o6 hi t0 t1 z0 z0b z1
      have ro := h7.1 i (by omega) (by omega)
      have ra := h4.at _ ro.1 ro.2
      have rk := hkb _ ro.1 ro.2
      have hci := hcb (o i)
      have ec : σ (w + 4) (o i) = c (o i) := by rw [ra.2.2, hc]
      have em : g.2.1 (kAt R (o i)) = m (o i) := by rw [← hm]
      have st := tlS_st (m := m) (o := o) (n := R.length) (i := i)
      -- behind the insert, or with none
      have nx : ∀ (t2 z2 : Int), 0 ≤ t2 → t2 ≤ 20000 + 6000 + 999 * (i : Int) → (z2 = 0 → c (o i) ≤ f ∧ t2 ≤ 20000 + 999 * (i : Int) ∧ ∀ B, EWb c m o R.length f wk B → t2 + wk + tlS m o R.length i ≤ B) → (z2 ≠ 0 → (∀ B, EWb c m o R.length f wk B → t2 + tlS m o R.length i ≤ B) ∧ ∀ j : Nat, i ≤ j → j < R.length → f < c (o j)) → Z E y_Row_endWith d 60 [some (vr w), some (vi f), some (vi wk), some (vi t2), some (vi z2), some (vi (i : Nat)), some (vi (o i))] [] σ (qi K) := by
        intro t2 z2 a0 a1 a2 a3
        refine b_Row_endWith_60 hw hd ⟨⟨by omega, by omega⟩, s_Math_max ?_⟩
        rw [ec, ra.1, (hG.1 _ rk.1.1 rk.1.2).2, em, wid (x := (i : Int) + 1) (by omega) (by omega)]
        have rk2 := rk.2
        rw [em] at rk2
        rw [wid (by omega) (by omega)]
        refine ⟨⟨by omega, by omega⟩, ?_⟩
        refine ih (i + 1) _ _ _ (by omega) (by omega) (by omega) (fun e B hB => ?_) (fun e => ?_) (fun e => ⟨fun B hB => ?_, fun j j0 j1 => (a3 e).2 j (by omega) j1⟩)
        · obtain ⟨b1, b2, b3⟩ := a2 e
          have b4 := b3 B hB
          have b5 := hB.2.1 i (by omega) b1
          omega
        · obtain ⟨b1, b2, b3⟩ := a2 e
          omega
        · have b4 := (a3 e).1 B hB
          have b5 := hB.2.2.1 i (by omega) ((a3 e).2 i (Nat.le_refl _) (by omega))
          omega
      refine b_Row_endWith_8 hw hd ⟨fun y => absurd y (by omega), fun _ => ⟨fun y => absurd y (by omega), fun _ => ⟨⟨by omega, by omega⟩, ?_⟩⟩⟩
      rw [ho]
      refine ⟨fun e => nx t z t0 t1 (fun e2 => absurd e2 e) (fun _ => z1 e), fun e => ⟨⟨by omega, by omega⟩, ?_⟩⟩
      rw [ec]
      refine ⟨fun le => nx t z t0 t1 (fun _ => ⟨le, z0b e, z0 e⟩) (fun ne => absurd e ne), fun gt => s_Math_max ?_⟩
      have tb := z0b e
      rw [wid (by omega) (by omega)]
      refine nx _ 1 (by omega) (by omega) (fun z => absurd z (by decide)) (fun _ => ?_)
      have all : ∀ j : Nat, i ≤ j → j < R.length → f < c (o j) := fun j j0 j1 => by have := up1 i j j0 j1; omega
      refine ⟨fun B hB => ?_, all⟩
      have b1 := z0 e B hB
      have b2 := hB.2.2.2 i (by omega) all
      omega
  exact loop R.length 0 0 0 none (by omega) (by omega) (by omega) (fun _ B hB => by have := hB.1; omega) (fun _ => by omega) (fun e => absurd rfl e)
end
