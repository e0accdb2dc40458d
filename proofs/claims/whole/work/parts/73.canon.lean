/-! rows that no swap of two neighbours betters -/
theorem RV_iff {T : Int → Int} (hT : MT T) : ∀ {R : RL}, RV T R ↔ (∀ x ∈ R, inM T x) ∧ (R.map Prod.fst).Nodup
  | [] => ⟨fun _ => ⟨fun x hx => by simp at hx, by simp⟩, fun _ => trivial⟩
  | x :: R => by
    have ih := RV_iff hT (R := R)
    refine ⟨fun h => ?_, fun h => ?_⟩
    · have b := ih.mp h.2.2
      refine ⟨fun y hy => ?_, ?_⟩
      · rcases List.mem_cons.mp hy with rfl | hy
        · exact h.1
        · exact b.1 y hy
      · rw [List.map_cons, List.nodup_cons]
        refine ⟨fun hm => ?_, b.2⟩
        obtain ⟨y, y1, y2⟩ := List.mem_map.mp hm
        have k := (inM6 hT h.1).1
        have := (tkn_bt (in63.of hT h.2.2) k).mpr ⟨y, y1, y2⟩
        have := h.2.1
        omega
    · have h2 := h.2
      rw [List.map_cons, List.nodup_cons] at h2
      have r := ih.mpr ⟨fun y hy => h.1 y (List.mem_cons_of_mem _ hy), h2.2⟩
      have hx := h.1 x List.mem_cons_self
      refine ⟨hx, ?_, r⟩
      have k := (inM6 hT hx).1
      rcases bt_01 (tkn R) x.1 with z | z
      · exact z
      · obtain ⟨y, y1, y2⟩ := (tkn_bt (in63.of hT r) k).mp z
        exact (h2.1 (List.mem_map.mpr ⟨y, y1, y2⟩)).elim
theorem RO.pm {T : Int → Int} (hT : MT T) {A : Int} {R S : RL} (p : R.Perm S) (h : RO T A R) : RO T A S ∧ tkn S = tkn R := by
  have a := (RV_iff hT).mp h.1
  have s : RV T S := (RV_iff hT).mpr ⟨fun x hx => a.1 x (p.mem_iff.mpr hx), (p.map Prod.fst).nodup_iff.mp a.2⟩
  refine ⟨⟨s, fun x hx => h.2 x (p.mem_iff.mpr hx)⟩, ?_⟩
  have i1 := in63.of hT h.1
  have i2 := in63.of hT s
  refine ext6 (tkn_lt (fun x hx => (i2 x hx).1)) (tkn_lt (fun x hx => (i1 x hx).1)) (fun j j0 j1 => ?_)
  have e1 := tkn_bt i1 (j := j) ⟨j0, j1⟩
  have e2 := tkn_bt i2 (j := j) ⟨j0, j1⟩
  have e : bt (tkn S) j = 1 ↔ bt (tkn R) j = 1 := by
    rw [e1, e2]
    exact ⟨fun ⟨x, x1, x2⟩ => ⟨x, p.mem_iff.mpr x1, x2⟩, fun ⟨x, x1, x2⟩ => ⟨x, p.mem_iff.mp x1, x2⟩⟩
  rcases bt_01 (tkn S) j with z | z <;> rcases bt_01 (tkn R) j with y | y
  · omega
  · have := e.mpr y; omega
  · have := e.mp z; omega
  · omega
/-- b behind a: the other way round is better -/
def BSw (g : GG) (b : Int × Int) : RL → Prop
  | [] => False
  | a :: R => a.2 ≠ b.2 ∧ (opn g R + g.1 a.1 + g.1 b.1 ≤ fre g R a.2 ∨ g.1 b.1 = 0) ∧ (¬ (opn g R + g.1 a.1 + g.1 b.1 ≤ fre g R b.2 ∨ g.1 a.1 = 0) ∨ b.2 < a.2)
def Cn (g : GG) : RL → Prop
  | [] => True
  | b :: R => ¬ BSw g b R ∧ Cn g R
theorem Cn.not {g : GG} : ∀ {Q : RL}, ¬ Cn g Q → ∃ L a b R, Q = L ++ b :: a :: R ∧ BSw g b (a :: R)
  | [], h => (h trivial).elim
  | b :: R, h => by
    by_cases c : Cn g R
    · have : BSw g b R := Classical.byContradiction (fun z => h ⟨z, c⟩)
      cases R with
      | nil => exact this.elim
      | cons a R => exact ⟨[], a, b, R, rfl, this⟩
    · obtain ⟨L, a, b2, R2, e, s⟩ := Cn.not c
      exact ⟨b :: L, a, b2, R2, by rw [e]; rfl, s⟩
/-- all times of copying together -/
def cS (g : GG) : RL → Int
  | [] => 0
  | x :: R => cS g R + cpd g x R
/-- the hands, the earlier the more -/
def hW : RL → Int
  | [] => 0
  | x :: R => hW R + x.2 * (6 - R.length)
theorem hW_app {a b : Int × Int} {R : RL} : ∀ {L : RL}, hW (L ++ a :: b :: R) = hW (L ++ b :: a :: R) + (b.2 - a.2)
  | [] => by
    show hW R + b.2 * (6 - R.length) + a.2 * (6 - ((R.length + 1 : Nat) : Int)) = hW R + a.2 * (6 - R.length) + b.2 * (6 - ((R.length + 1 : Nat) : Int)) + (b.2 - a.2)
    have q : ∀ y m : Int, y * (m - 1) = y * m - y := fun y m => by rw [Int.mul_sub, Int.mul_one]
    rw [show (6 - ((R.length + 1 : Nat) : Int)) = (6 - R.length) - 1 by omega, q, q]; omega
  | x :: L => by
    have ih := hW_app (a := a) (b := b) (R := R) (L := L)
    show hW (L ++ a :: b :: R) + x.2 * (6 - ((L ++ a :: b :: R).length : Nat)) = hW (L ++ b :: a :: R) + x.2 * (6 - ((L ++ b :: a :: R).length : Nat)) + (b.2 - a.2)
    rw [ih]
    simp only [List.length_append, List.length_cons]
    omega
theorem hW_b : ∀ {R : RL}, in63 R → R.length ≤ 6 → 0 ≤ hW R ∧ hW R ≤ 12 * R.length
  | [], _, _ => by simp [hW]
  | x :: R, h, l => by
    rw [List.length_cons] at l
    have ih := hW_b h.tl (by omega)
    have hx := (h x List.mem_cons_self).2
    rw [List.length_cons]
    show 0 ≤ hW R + x.2 * (6 - R.length) ∧ hW R + x.2 * (6 - R.length) ≤ _
    rcases (show x.2 = 0 ∨ x.2 = 1 ∨ x.2 = 2 by omega) with e | e | e <;> rw [e] <;> omega
theorem cS_nn {g : GG} : ∀ {R : RL}, Rb g R → 0 ≤ cS g R
  | [], _ => Int.le_refl _
  | x :: R, h => by
    have := cS_nn h.2
    have := (cpd_b h.1 h.2).1
    show 0 ≤ cS g R + cpd g x R; omega
theorem cS_app {g : GG} {R S : RL} (h : DM g R S) {e : Int} (c : cS g R ≤ cS g S - e) : ∀ {L : RL}, Rb g L → cS g (L ++ R) ≤ cS g (L ++ S) - e
  | [], _ => c
  | x :: L, hb => by
    have ih := cS_app h c (L := L) hb.2
    have := (h.app hb.2).cp x
    show cS g (L ++ R) + cpd g x (L ++ R) ≤ cS g (L ++ S) + cpd g x (L ++ S) - e; omega
theorem cS_sw {g : GG} {a b : Int × Int} {R : RL} (hb : Rb g (b :: a :: R)) (s : BSw g b (a :: R)) : cS g (a :: b :: R) ≤ cS g (b :: a :: R) ∧ (cS g (a :: b :: R) ≤ cS g (b :: a :: R) - 1 ∨ b.2 < a.2) := by
  obtain ⟨hne, hs, hl⟩ := s
  have o1 := hb.1.1.1
  have o2 := hb.2.1.1.1
  have fa : fre g (b :: R) a.2 = fre g R a.2 := by show (if b.2 = a.2 then _ else _) = _; rw [if_neg (fun z => hne z.symm)]
  have fb : fre g (a :: R) b.2 = fre g R b.2 := by show (if a.2 = b.2 then _ else _) = _; rw [if_neg hne]
  have ca : cpd g a (b :: R) = cpd g a R := by
    unfold cpd; rw [fa]
    show max (opn g R + g.1 b.1 + g.1 a.1) (fre g R a.2) + _ = max (opn g R + g.1 a.1) (fre g R a.2) + _
    omega
  have e1 : cS g (a :: b :: R) = cS g R + cpd g b R + cpd g a R := by show cS g R + cpd g b R + cpd g a (b :: R) = _; rw [ca]
  have e2 : cS g (b :: a :: R) = cS g R + cpd g a R + cpd g b (a :: R) := rfl
  have e3 : cpd g b (a :: R) = max (opn g R + g.1 a.1 + g.1 b.1) (fre g R b.2) + g.2.2 b.1 b.2 := by unfold cpd; rw [fb]; rfl
  have e4 : cpd g b R = max (opn g R + g.1 b.1) (fre g R b.2) + g.2.2 b.1 b.2 := rfl
  rw [e1, e2, e3, e4]
  refine ⟨by omega, ?_⟩
  rcases hl with hl | hl
  · left; omega
  · exact Or.inr hl
theorem RV.len {T : Int → Int} (hT : MT T) {R : RL} (h : RV T R) : R.length ≤ 6 := by
  have c := (h.cnt hT).2
  unfold cnt6 at c
  have b : ∀ j, bt (tkn R) j ≤ 1 := fun j => by rcases bt_01 (tkn R) j with z | z <;> omega
  have := b 0
  have := b 1
  have := b 2
  have := b 3
  have := b 4
  have := b 5
  omega
theorem dec_m {c1 c2 h1 h2 a b : Int} (hc : c1 ≤ c2) (w : c1 ≤ c2 - 1 ∨ b < a) (e : h1 = h2 + (b - a)) (h0 : 0 ≤ h1) (c0 : 0 ≤ c1) (ab : b ≤ a + 2) : (100 * c1 + h1).toNat < (100 * c2 + h2).toNat := by
  have p : 0 ≤ 100 * c1 + h1 := by omega
  have l : 100 * c1 + h1 < 100 * c2 + h2 := by rcases w with w | w <;> omega
  omega
theorem canon_st {T : Int → Int} (hT : MT T) {A : Int} {Q : RL} (h : RO T A Q) (q : ∀ P, RO T A P → tkn P = tkn Q → endV (gM T) P ≤ endV (gM T) Q → (100 * cS (gM T) P + hW P).toNat < (100 * cS (gM T) Q + hW Q).toNat → ∃ P, RO T A P ∧ tkn P = tkn Q ∧ endV (gM T) P ≤ endV (gM T) Q ∧ Cn (gM T) P) : ∃ P, RO T A P ∧ tkn P = tkn Q ∧ endV (gM T) P ≤ endV (gM T) Q ∧ Cn (gM T) P := by
  by_cases c : Cn (gM T) Q
  · exact ⟨Q, h, rfl, Int.le_refl _, c⟩
  · obtain ⟨L, a, b, R, e, s⟩ := Cn.not c
    subst e
    have hb := Rb_of hT h.1.mem
    have sp := hb.spl
    have pm : (L ++ b :: a :: R).Perm (L ++ a :: b :: R) := List.Perm.append_left L (List.Perm.swap a b R)
    have r := h.pm hT pm
    have hb2 := Rb_of hT r.1.1.mem
    have dm := DM.swap sp.2 s.1 s.2.1
    have w := cS_sw sp.2 s
    have c1 := cS_app dm (e := 0) (by rw [Int.sub_zero]; exact w.1) (L := L) sp.1
    rw [Int.sub_zero] at c1
    have c2 : cS (gM T) (L ++ a :: b :: R) ≤ cS (gM T) (L ++ b :: a :: R) - 1 ∨ b.2 < a.2 := w.2.elim (fun z => Or.inl (cS_app dm z sp.1)) Or.inr
    have hw := hW_app (a := a) (b := b) (R := R) (L := L)
    have i1 := in63.of hT r.1.1
    have ln := RV.len hT r.1.1
    have hw0 := (hW_b i1 ln).1
    have cs0 := cS_nn hb2
    have xa := (i1 a (by simp)).2
    have xb := (i1 b (by simp)).2
    have ab : b.2 ≤ a.2 + 2 := by clear q c hw c1 c2 w; omega
    exact q _ r.1 r.2 ((dm.app sp.1).ev hb2 hb) (dec_m c1 c2 hw hw0 cs0 ab)
/-- some row as soon is not bettered by a swap -/
theorem canon {T : Int → Int} (hT : MT T) {A : Int} : ∀ (n : Nat) (Q : RL), RO T A Q → (100 * cS (gM T) Q + hW Q).toNat ≤ n → ∃ P, RO T A P ∧ tkn P = tkn Q ∧ endV (gM T) P ≤ endV (gM T) Q ∧ Cn (gM T) P := by
  intro n
  induction n with
  | zero =>
    intro Q h hn
    exact canon_st hT h (fun P hP e1 e2 hm => by omega)
  | succ n ih =>
    intro Q h hn
    refine canon_st hT h (fun P hP e1 e2 hm => ?_)
    obtain ⟨P2, a, b, c, d⟩ := ih P hP (by omega)
    exact ⟨P2, a, b.trans e1, Int.le_trans c e2, d⟩
