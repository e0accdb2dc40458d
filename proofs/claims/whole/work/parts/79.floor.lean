/-! the planner: floorOf -/
theorem bl_1 : ∀ (a : Fin 64) (k j : Fin 6), bt (ian (a.val : Int) (ixo (ish 1 (k.val : Int)) (-1))) (j.val : Int) = if (j.val : Int) = (k.val : Int) then 0 else bt (a.val : Int) (j.val : Int) := by decide +kernel
theorem bl_2 : ∀ (a : Fin 64) (k : Fin 6), bt (a.val : Int) (k.val : Int) = 1 → 0 ≤ ian (a.val : Int) (ixo (ish 1 (k.val : Int)) (-1)) ∧ ian (a.val : Int) (ixo (ish 1 (k.val : Int)) (-1)) < (a.val : Int) := by decide +kernel
theorem bless {a k j : Int} (ha : 0 ≤ a ∧ a < 64) (hk : 0 ≤ k ∧ k < 6) (hj : 0 ≤ j ∧ j < 6) : bt (ian a (ixo (ish 1 k) (-1))) j = if j = k then 0 else bt a j := by
  have := bl_1 ⟨a.toNat, by omega⟩ ⟨k.toNat, by omega⟩ ⟨j.toNat, by omega⟩
  simp only [show ((a.toNat : Nat) : Int) = a by omega, show ((k.toNat : Nat) : Int) = k by omega, show ((j.toNat : Nat) : Int) = j by omega] at this
  exact this
theorem bless_lt {a k : Int} (ha : 0 ≤ a ∧ a < 64) (hk : 0 ≤ k ∧ k < 6) (hb : bt a k = 1) : 0 ≤ ian a (ixo (ish 1 k) (-1)) ∧ ian a (ixo (ish 1 k) (-1)) < a := by
  have := bl_2 ⟨a.toNat, by omega⟩ ⟨k.toNat, by omega⟩
  simp only [show ((a.toNat : Nat) : Int) = a by omega, show ((k.toNat : Nat) : Int) = k by omega] at this
  exact this hb
/-- a row without one of its letters -/
theorem RO.wo {T : Int → Int} (hT : MT T) {A : Int} {L R : RL} {y : Int × Int} (h : RO T A (L ++ y :: R)) : RO T A (L ++ R) ∧ tkn (L ++ R) = ian (tkn (L ++ y :: R)) (ixo (ish 1 y.1) (-1)) ∧ endV (gM T) (L ++ R) ≤ endV (gM T) (L ++ y :: R) := by
  have p : (L ++ y :: R).Perm (y :: (L ++ R)) := List.perm_middle
  have r := h.pm hT p
  have o := r.1.tl
  have hb := Rb_of hT h.1.mem
  have hb2 := Rb_of hT o.1.mem
  have s := hb.spl
  refine ⟨o, ?_, ((DM.less s.2).app s.1).ev hb2 hb⟩
  have e : tkn (L ++ y :: R) = ior (tkn (L ++ R)) (ish 1 y.1) := r.2.symm
  rw [e, bdrop (tkn_lt (fun x hx => ((in63.of hT o.1) x hx).1)) (inM6 hT r.1.1.1).1 r.1.1.2.1]
theorem floor_le {T : Int → Int} (hT : MT T) {A S k v : Int} (hk : 0 ≤ k ∧ k < 6) (hb : bt S k = 1) (hv : IsSoon T A (ian S (ixo (ish 1 k) (-1))) v) {R : RL} (h : RO T A R) (e : tkn R = S) : v ≤ endV (gM T) R := by
  subst e
  obtain ⟨y, y1, y2⟩ := (tkn_bt (in63.of hT h.1) hk).mp hb
  obtain ⟨L, R2, e⟩ := List.append_of_mem y1
  subst e
  have w := h.wo hT
  rw [y2] at w
  exact Int.le_trans (hv.2.2 _ w.1 w.2.1) w.2.2
section
variable {E : EN} {d : Nat} {σ : Mem} {T : Int → Int}
theorem s_Plan_floorOf {K : Int → Mem → Prop} {A S : Int} (hd : 1 ≤ d) (hT : MT T) (hP : HR σ 2 T) (hA : 0 ≤ A ∧ A < 8) (h4 : σ 92 4 = 64 * A) (hS : 0 ≤ S ∧ S < 64) (hv : ∀ S2 : Int, 0 ≤ S2 → S2 < S → IsSoon T A S2 (σ 13 (64 * A + S2)) ∧ 0 ≤ σ 13 (64 * A + S2)) (q : ∀ x : Int, 0 ≤ x → x ≤ 1000 → (∀ R, RO T A R → tkn R = S → x ≤ endV (gM T) R) → K x σ) : CI E y_Plan_floorOf d [vr 92, vi S] σ K := by
  have e3 : σ 2 3 = T 4 := hP.1.2.2.2.1
  have t4 := hT.2.2.2.1
  refine c_Plan_floorOf (b_Plan_floorOf_0 ?_)
  have loop : ∀ (n i : Nat) (x : Int), i + n = (T 4).toNat → 0 ≤ x → x ≤ 1000 → (∀ R, RO T A R → tkn R = S → x ≤ endV (gM T) R) → Z E y_Plan_floorOf d 4 [some (vr 92), some (vi S), some (vi x), some (vi (i : Nat))] [] σ (qi K) := by
    intro n
    induction n with
    | zero =>
      intro i x hi x0 x1 hx
      exact b_Plan_floorOf_4 hd ⟨fun _ => q x x0 x1 hx, fun z => absurd z (by omega)⟩
    | succ n ih =>
      intro i x hi x0 x1 hx
      refine b_Plan_floorOf_4 hd ⟨fun z => absurd z (by omega), fun _ => ?_⟩
      rw [bit_eqU (by omega), wid (x := (i : Int) + 1) (by omega) (by omega), show (i : Int) + 1 = ((i + 1 : Nat) : Int) by omega]
      refine ⟨fun z => ih (i + 1) x (by omega) x0 x1 hx, fun z => ?_⟩
      have b1 : bt S (i : Int) = 1 := bt_not z
      have lt := bless_lt hS (k := (i : Int)) (by omega) b1
      obtain ⟨v1, v0⟩ := hv _ lt.1 lt.2
      refine s_Plan_soonest hA h4 ⟨lt.1, by omega⟩ (s_Math_max (ih (i + 1) _ (by omega) (by omega) (by have := v1.1; omega) (fun R hR eR => ?_)))
      have a := hx R hR eR
      have b := floor_le hT (by omega) b1 v1 hR eR
      omega
  exact loop (T 4).toNat 0 0 (by omega) (by omega) (by omega) (fun R hR _ => endV_nn (Rb_of hT hR.1.mem))
end
