/-! no row with the letters left behind it ends sooner than the class's leastEnd -/
theorem sm_z : ∀ n : Nat, sm (fun _ => (0 : Int)) n = 0
  | 0 => rfl
  | n + 1 => by show sm (fun _ => (0 : Int)) n + 0 = 0; rw [sm_z n]; rfl
theorem tl_wk {g : GG} {R : RL} (hm : ∀ p : Int, 0 ≤ p → p < R.length → 0 ≤ g.2.1 (kAt R p)) {t : Int} {i : Nat} (hi : i ≤ R.length) (h : ∀ j : Nat, i ≤ j → j < R.length → t ≤ copAt g R (oF g R j)) : tlS (fun p => g.2.1 (kAt R p)) (oF g R) R.length i ≤ WK g R t := by
  have ok := oF_ok g R
  have tl := sm_tail (B := fun i => g.2.1 (kAt R (oF g R i))) (n := R.length) (j := i) hi
  have e2 : tlS (fun p => g.2.1 (kAt R p)) (oF g R) R.length i = sm (fun c => g.2.1 (kAt R (oF g R (i + c)))) (R.length - i) := tl
  rw [e2, WK_o]
  have sp := sm_sp (fun j => if t ≤ copAt g R (oF g R j) then g.2.1 (kAt R (oF g R j)) else 0) i (R.length - i)
  rw [show i + (R.length - i) = R.length by omega] at sp
  rw [sp]
  have l1 : sm (fun _ => (0 : Int)) i ≤ sm (fun j => if t ≤ copAt g R (oF g R j) then g.2.1 (kAt R (oF g R j)) else 0) i := sm_le i (fun q q0 q1 => by
    have := ok.1 q q0 (by omega)
    have := hm _ this.1 this.2
    show 0 ≤ (if t ≤ copAt g R (oF g R q) then g.2.1 (kAt R (oF g R q)) else 0)
    split <;> omega)
  rw [sm_z] at l1
  have l2 : sm (fun c => g.2.1 (kAt R (oF g R (i + c)))) (R.length - i) ≤ sm (fun c => if t ≤ copAt g R (oF g R (i + c)) then g.2.1 (kAt R (oF g R (i + c))) else 0) (R.length - i) := sm_le _ (fun q q0 q1 => by
    have := h (i + q.toNat) (by omega) (by omega)
    rw [show ((i + q.toNat : Nat) : Int) = i + q by omega] at this
    show g.2.1 (kAt R (oF g R (i + q))) ≤ (if t ≤ copAt g R (oF g R (i + q)) then g.2.1 (kAt R (oF g R (i + q))) else 0)
    rw [if_pos this]; exact Int.le_refl _)
  omega
theorem ew_le {g : GG} {R L : RL} {f : Int} (hb : Rb g (L ++ R)) (hn : L ≠ []) (f0 : 0 ≤ f) (hf : ∀ L1 x L2, L = L1 ++ x :: L2 → f ≤ cpd g x (L2 ++ R)) : EWb (copAt g R) (fun p => g.2.1 (kAt R p)) (oF g R) R.length f (mdS g L) (endV g (L ++ R)) := by
  have W := wk_app (f := f) (fun _ _ _ => trivial) hb hf
  have s := hb.spl
  have ok := oF_ok g R
  have cb := copAt_b s.2
  have hF := W.2.2.1 hn
  have at_ : ∀ i : Nat, i < R.length → hasC g (L ++ R) (copAt g R (oF g R i)) := fun i hi => by
    have := ok.1 i (by omega) (by omega)
    exact W.2.2.2 _ ((hasC_at g _ R).mpr ⟨_, this.1, this.2, Int.le_refl _⟩)
  have tw : ∀ i : Nat, i < R.length → tlS (fun p => g.2.1 (kAt R p)) (oF g R) R.length i ≤ WK g R (copAt g R (oF g R i)) := fun i hi => tl_wk s.2.md (by omega) (fun j a b => rise g R (by omega) (by omega) (by omega))
  refine ⟨?_, fun i hi hc => ?_, fun i hi hc => ?_, fun i hi hj => ?_⟩
  · have a := EV1 hb hb.md (hasC_dn f0 hF)
    have b := W.1 0 f0
    have c := tl_wk s.2.md (t := 0) (i := 0) (by omega) (fun j _ _ => (cb _).1)
    omega
  · have a := EV1 hb hb.md (at_ i hi)
    have b := W.1 _ hc
    have c := tw i hi
    omega
  · have a := EV1 hb hb.md (at_ i hi)
    have b := W.2.1 (copAt g R (oF g R i))
    have c := tw i hi
    omega
  · have a := EV1 hb hb.md hF
    have b := W.1 f (Int.le_refl _)
    have c := tl_wk s.2.md (t := f) hi (fun j a b => by have := hj j a b; omega)
    omega
/-- the order of the class's row is the one order -/
theorem EWb.or {c m o o2 : Int → Int} {n : Nat} {f wk B : Int} (e : ∀ i : Int, 0 ≤ i → i < n → o2 i = o i) (h : EWb c m o n f wk B) : EWb c m o2 n f wk B := by
  have s : ∀ i : Nat, i ≤ n → sm (fun j => m (o2 j)) i = sm (fun j => m (o j)) i := fun i hi => sm_cg i (fun p p0 p1 => by rw [e p p0 (by omega)])
  have t : ∀ i : Nat, i ≤ n → tlS m o2 n i = tlS m o n i := fun i hi => by unfold tlS; rw [s n (Nat.le_refl _), s i hi]
  refine ⟨by rw [t 0 (by omega)]; exact h.1, fun i hi hc => ?_, fun i hi hc => ?_, fun i hi hj => ?_⟩
  · rw [e i (by omega) (by omega)] at hc ⊢; rw [t i (by omega)]; exact h.2.1 i hi hc
  · rw [e i (by omega) (by omega)] at hc ⊢; rw [t i (by omega)]; exact h.2.2.1 i hi hc
  · rw [t i hi]; exact h.2.2.2 i hi (fun j a b => by have := hj j a b; rw [e j (by omega) (by omega)] at this; exact this)
