/-! rows that are never later than others -/
theorem Rb.md {g : GG} : ∀ {R : RL}, Rb g R → ∀ p : Int, 0 ≤ p → p < R.length → 0 ≤ g.2.1 (kAt R p)
  | [], _, p, h0, h => absurd h (by simp; omega)
  | x :: R, hb, p, h0, h => by
    show 0 ≤ g.2.1 (if p = R.length then x.1 else kAt R p)
    by_cases e : p = R.length
    · rw [if_pos e]; exact hb.1.2.1.1
    · rw [if_neg e]; exact Rb.md hb.2 p h0 (by simp only [List.length_cons] at h; omega)
theorem WK_nn {g : GG} : ∀ {R : RL}, Rb g R → ∀ t, 0 ≤ WK g R t
  | [], _, _ => Int.le_refl _
  | x :: R, hb, t => by
    have := WK_nn hb.2 t
    have := hb.1.2.1.1
    show 0 ≤ WK g R t + (if t ≤ cpd g x R then g.2.1 x.1 else 0)
    split <;> omega
theorem endV_nil (g : GG) : endV g [] = 0 := by rw [endV_o]; rfl
theorem hasC_dn {g : GG} : ∀ {R : RL} {t u : Int}, u ≤ t → hasC g R t → hasC g R u
  | [], _, _, _, h => h
  | x :: R, t, u, hu, h => by
    rcases h with h | h
    · exact Or.inl (by omega)
    · exact Or.inr (hasC_dn hu h)
theorem hasC_0 {g : GG} {x : Int × Int} {R : RL} (hb : Rb g (x :: R)) : hasC g (x :: R) 0 := Or.inl (cpd_b hb.1 hb.2).1
theorem endV_nn {g : GG} : ∀ {R : RL}, Rb g R → 0 ≤ endV g R
  | [], _ => by rw [endV_nil]; exact Int.le_refl _
  | x :: R, hb => by
    have := EV1 hb hb.md (hasC_0 hb)
    have := WK_nn hb 0
    omega
/-- R1 is never later than R2 -/
def DM (g : GG) (R1 R2 : RL) : Prop := opn g R1 ≤ opn g R2 ∧ (∀ h, fre g R1 h ≤ fre g R2 h) ∧ (∀ t, hasC g R1 t → hasC g R2 t) ∧ ∀ t, WK g R1 t ≤ WK g R2 t
theorem DM.rf {g : GG} {R : RL} : DM g R R := ⟨Int.le_refl _, fun _ => Int.le_refl _, fun _ h => h, fun _ => Int.le_refl _⟩
theorem DM.tr {g : GG} {R1 R2 R3 : RL} (h : DM g R1 R2) (k : DM g R2 R3) : DM g R1 R3 := ⟨Int.le_trans h.1 k.1, fun x => Int.le_trans (h.2.1 x) (k.2.1 x), fun t q => k.2.2.1 t (h.2.2.1 t q), fun t => Int.le_trans (h.2.2.2 t) (k.2.2.2 t)⟩
theorem DM.cp {g : GG} {R1 R2 : RL} (h : DM g R1 R2) (x : Int × Int) : cpd g x R1 ≤ cpd g x R2 := by
  have a := h.1
  have b := h.2.1 x.2
  unfold cpd; omega
theorem DM.cons {g : GG} {R1 R2 : RL} (h : DM g R1 R2) {x : Int × Int} (hx : Gb g x) : DM g (x :: R1) (x :: R2) := by
  have c := h.cp x
  have m0 := hx.2.1.1
  refine ⟨?_, fun y => ?_, fun t q => ?_, fun t => ?_⟩
  · have := h.1; show opn g R1 + g.1 x.1 ≤ opn g R2 + g.1 x.1; omega
  · show (if x.2 = y then cpd g x R1 else fre g R1 y) ≤ (if x.2 = y then cpd g x R2 else fre g R2 y)
    by_cases e : x.2 = y
    · rw [if_pos e, if_pos e]; exact c
    · rw [if_neg e, if_neg e]; exact h.2.1 y
  · rcases q with q | q
    · exact Or.inl (by omega)
    · exact Or.inr (h.2.2.1 t q)
  · have := h.2.2.2 t
    show WK g R1 t + (if t ≤ cpd g x R1 then g.2.1 x.1 else 0) ≤ WK g R2 t + (if t ≤ cpd g x R2 then g.2.1 x.1 else 0)
    by_cases e : t ≤ cpd g x R1
    · rw [if_pos e, if_pos (by omega)]; omega
    · rw [if_neg e]; split <;> omega
theorem DM.app {g : GG} {R1 R2 : RL} (h : DM g R1 R2) : ∀ {L : RL}, Rb g L → DM g (L ++ R1) (L ++ R2)
  | [], _ => h
  | _ :: _, hb => DM.cons (DM.app h hb.2) hb.1
theorem Rb.app {g : GG} : ∀ {L R : RL}, Rb g L → Rb g R → Rb g (L ++ R)
  | [], _, _, h => h
  | _ :: _, _, hl, h => ⟨hl.1, Rb.app hl.2 h⟩
theorem Rb.spl {g : GG} : ∀ {L R : RL}, Rb g (L ++ R) → Rb g L ∧ Rb g R
  | [], _, h => ⟨trivial, h⟩
  | _ :: _, _, h => ⟨⟨h.1, (Rb.spl h.2).1⟩, (Rb.spl h.2).2⟩
theorem DM.ev {g : GG} {R1 R2 : RL} (h : DM g R1 R2) (b1 : Rb g R1) (b2 : Rb g R2) : endV g R1 ≤ endV g R2 := EVle b1 b1.md b2 b2.md (endV_nn b2) h.2.2.1 h.2.2.2
/-- a letter less -/
theorem DM.less {g : GG} {x : Int × Int} {R : RL} (hb : Rb g (x :: R)) : DM g R (x :: R) := by
  have h1 := hb.1.1.1
  have h2 := hb.1.2.1.1
  refine ⟨by show opn g R ≤ opn g R + g.1 x.1; omega, fun h => fre_le hb.1 h, fun t q => Or.inr q, fun t => ?_⟩
  show WK g R t ≤ WK g R t + (if t ≤ cpd g x R then g.2.1 x.1 else 0)
  split <;> omega
theorem endV_cons {g : GG} {x : Int × Int} {R : RL} (hb : Rb g (x :: R)) : endV g R ≤ endV g (x :: R) := (DM.less hb).ev hb.2 hb
theorem endV_app {g : GG} {R : RL} : ∀ {L : RL}, Rb g (L ++ R) → endV g R ≤ endV g (L ++ R)
  | [], _ => Int.le_refl _
  | _ :: _, hb => Int.le_trans (endV_app hb.2) (endV_cons hb)
/-- the last two the other way round: a was ahead, b behind it, by unlike hands -/
theorem DM.swap {g : GG} {a b : Int × Int} {R : RL} (hb : Rb g (b :: a :: R)) (hne : a.2 ≠ b.2) (hs : opn g R + g.1 a.1 + g.1 b.1 ≤ fre g R a.2 ∨ g.1 b.1 = 0) : DM g (a :: b :: R) (b :: a :: R) := by
  have o1 := hb.1.1.1
  have o2 := hb.2.1.1.1
  have m1 := hb.1.2.1.1
  have m2 := hb.2.1.2.1.1
  have fa : fre g (b :: R) a.2 = fre g R a.2 := by show (if b.2 = a.2 then _ else _) = _; rw [if_neg (fun z => hne z.symm)]
  have fb : fre g (a :: R) b.2 = fre g R b.2 := by show (if a.2 = b.2 then _ else _) = _; rw [if_neg hne]
  have ca : cpd g a (b :: R) = cpd g a R := by
    unfold cpd; rw [fa]
    show max (opn g R + g.1 b.1 + g.1 a.1) (fre g R a.2) + _ = max (opn g R + g.1 a.1) (fre g R a.2) + _
    omega
  have cb : cpd g b R ≤ cpd g b (a :: R) := by
    unfold cpd; rw [fb]
    show max (opn g R + g.1 b.1) (fre g R b.2) + _ ≤ max (opn g R + g.1 a.1 + g.1 b.1) (fre g R b.2) + _
    omega
  refine ⟨?_, fun h => ?_, fun t q => ?_, fun t => ?_⟩
  · show opn g R + g.1 b.1 + g.1 a.1 ≤ opn g R + g.1 a.1 + g.1 b.1; omega
  · show (if a.2 = h then cpd g a (b :: R) else if b.2 = h then cpd g b R else fre g R h) ≤ (if b.2 = h then cpd g b (a :: R) else if a.2 = h then cpd g a R else fre g R h)
    by_cases e : a.2 = h
    · have e2 : ¬ b.2 = h := fun z => hne (by rw [e, z])
      rw [if_pos e, if_neg e2, if_pos e, ca]; exact Int.le_refl _
    · by_cases e2 : b.2 = h
      · rw [if_neg e, if_pos e2, if_pos e2]; exact cb
      · rw [if_neg e, if_neg e2, if_neg e2, if_neg e]; exact Int.le_refl _
  · rcases q with q | q | q
    · rw [ca] at q; exact Or.inr (Or.inl q)
    · exact Or.inl (by omega)
    · exact Or.inr (Or.inr q)
  · show WK g R t + (if t ≤ cpd g b R then g.2.1 b.1 else 0) + (if t ≤ cpd g a (b :: R) then g.2.1 a.1 else 0) ≤ WK g R t + (if t ≤ cpd g a R then g.2.1 a.1 else 0) + (if t ≤ cpd g b (a :: R) then g.2.1 b.1 else 0)
    rw [ca]
    by_cases e : t ≤ cpd g b R
    · rw [if_pos e, if_pos (show t ≤ cpd g b (a :: R) by omega)]; omega
    · rw [if_neg e]
      have : 0 ≤ (if t ≤ cpd g b (a :: R) then g.2.1 b.1 else 0) := by split <;> omega
      omega
/-- letters behind R are no sooner than alone, from when R's last is opened -/
def DS (g : GG) (δ : Int) (R1 R2 : RL) : Prop := opn g R1 + δ ≤ opn g R2 ∧ (∀ h, fre g R1 h + δ ≤ max (opn g R2) (fre g R2 h)) ∧ (∀ t, hasC g R1 t → hasC g R2 (t + δ)) ∧ ∀ t, WK g R1 t ≤ WK g R2 (t + δ)
theorem DS.cp {g : GG} {δ : Int} {R1 R2 : RL} (h : DS g δ R1 R2) {x : Int × Int} (hx : Gb g x) : cpd g x R1 + δ ≤ cpd g x R2 := by
  have a := h.1
  have b := h.2.1 x.2
  have c := hx.1.1
  unfold cpd; omega
theorem DS.cons {g : GG} {δ : Int} {R1 R2 : RL} (h : DS g δ R1 R2) {x : Int × Int} (hx : Gb g x) : DS g δ (x :: R1) (x :: R2) := by
  have c := h.cp hx
  have m0 := hx.2.1.1
  have o0 := hx.1.1
  refine ⟨?_, fun y => ?_, fun t q => ?_, fun t => ?_⟩
  · have := h.1; show opn g R1 + g.1 x.1 + δ ≤ opn g R2 + g.1 x.1; omega
  · show (if x.2 = y then cpd g x R1 else fre g R1 y) + δ ≤ max (opn g R2 + g.1 x.1) (if x.2 = y then cpd g x R2 else fre g R2 y)
    by_cases e : x.2 = y
    · rw [if_pos e, if_pos e]; omega
    · rw [if_neg e, if_neg e]; have := h.2.1 y; omega
  · rcases q with q | q
    · exact Or.inl (by omega)
    · exact Or.inr (h.2.2.1 t q)
  · have := h.2.2.2 t
    show WK g R1 t + (if t ≤ cpd g x R1 then g.2.1 x.1 else 0) ≤ WK g R2 (t + δ) + (if t + δ ≤ cpd g x R2 then g.2.1 x.1 else 0)
    by_cases e : t ≤ cpd g x R1
    · rw [if_pos e, if_pos (by omega)]; omega
    · rw [if_neg e]; split <;> omega
theorem DS.app {g : GG} {δ : Int} {R1 R2 : RL} (h : DS g δ R1 R2) : ∀ {L : RL}, Rb g L → DS g δ (L ++ R1) (L ++ R2)
  | [], _ => h
  | _ :: _, hb => DS.cons (DS.app h hb.2) hb.1
theorem DS.nil {g : GG} {R : RL} (hb : Rb g R) : DS g (opn g R) [] R :=
  ⟨by show 0 + opn g R ≤ opn g R; omega, fun h => by show 0 + opn g R ≤ max (opn g R) (fre g R h); omega, fun t q => q.elim, fun t => WK_nn hb _⟩
theorem alone {g : GG} {L R : RL} (hb : Rb g (L ++ R)) (hn : L ≠ []) : opn g R + endV g L ≤ endV g (L ++ R) := by
  have s := hb.spl
  have d := (DS.nil s.2).app s.1
  rw [List.append_nil] at d
  obtain ⟨t, a, b⟩ := EV2 s.1 s.1.md hn
  have e1 := EV1 hb hb.md (d.2.2.1 t a)
  have := d.2.2.2 t
  omega
/-- the last one must still be copied and mended -/
theorem behind {g : GG} {x : Int × Int} {R : RL} (hb : Rb g (x :: R)) : opn g (x :: R) + g.2.2 x.1 x.2 + g.2.1 x.1 ≤ endV g (x :: R) := by
  have e1 := EV1 hb hb.md (t := cpd g x R) (Or.inl (Int.le_refl _))
  have e2 : WK g (x :: R) (cpd g x R) = WK g R (cpd g x R) + g.2.1 x.1 := by show WK g R (cpd g x R) + (if cpd g x R ≤ cpd g x R then g.2.1 x.1 else 0) = _; rw [if_pos (Int.le_refl _)]
  have e3 := WK_nn hb.2 (cpd g x R)
  have e4 : opn g (x :: R) = opn g R + g.1 x.1 := rfl
  unfold cpd at e1 e2 e3
  omega
/-- all mending of a row -/
def mdS (g : GG) : RL → Int
  | [] => 0
  | x :: R => mdS g R + g.2.1 x.1
def opS (g : GG) : RL → Int
  | [] => 0
  | x :: R => opS g R + g.1 x.1
theorem opn_app {g : GG} {R : RL} : ∀ {L : RL}, opn g (L ++ R) = opn g R + opS g L
  | [] => by show opn g R = opn g R + 0; omega
  | x :: L => by
    have := opn_app (g := g) (R := R) (L := L)
    show opn g (L ++ R) + g.1 x.1 = opn g R + (opS g L + g.1 x.1); omega
/-- what comes behind R, if none of it comes ahead of minute f -/
theorem wk_app {g : GG} {R : RL} {f : Int} : ∀ {L : RL}, (∀ t u : Int, hasC g (L ++ R) t → True) → Rb g (L ++ R) → (∀ L1 x L2, L = L1 ++ x :: L2 → f ≤ cpd g x (L2 ++ R)) → (∀ t, t ≤ f → WK g (L ++ R) t = WK g R t + mdS g L) ∧ (∀ t, WK g R t ≤ WK g (L ++ R) t) ∧ (L ≠ [] → hasC g (L ++ R) f) ∧ (∀ t, hasC g R t → hasC g (L ++ R) t)
  | [], _, hb, h => ⟨fun t _ => by show WK g R t = WK g R t + 0; omega, fun t => Int.le_refl _, fun z => absurd rfl z, fun t z => z⟩
  | x :: L, _, hb, h => by
    have ih := wk_app (g := g) (R := R) (f := f) (L := L) (fun _ _ _ => trivial) hb.2 (fun L1 y L2 e => h (x :: L1) y L2 (by rw [e]; rfl))
    have hx := h [] x L rfl
    have m0 := hb.1.2.1.1
    refine ⟨fun t ht => ?_, fun t => ?_, fun _ => Or.inl hx, fun t z => Or.inr (ih.2.2.2 t z)⟩
    · have := ih.1 t ht
      show WK g (L ++ R) t + (if t ≤ cpd g x (L ++ R) then g.2.1 x.1 else 0) = WK g R t + (mdS g L + g.2.1 x.1)
      rw [if_pos (by omega)]; omega
    · have := ih.2.1 t
      show WK g R t ≤ WK g (L ++ R) t + (if t ≤ cpd g x (L ++ R) then g.2.1 x.1 else 0)
      split <;> omega
