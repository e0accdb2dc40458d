/-! when all is mended, without the order: the worst of 'from t on, all that comes at t or later' -/
/-- mending that comes to the table at t or later -/
def WK (g : GG) : RL → Int → Int
  | [], _ => 0
  | x :: R, t => WK g R t + (if t ≤ cpd g x R then g.2.1 x.1 else 0)
/-- something comes at t or later -/
def hasC (g : GG) : RL → Int → Prop
  | [], _ => False
  | x :: R, t => t ≤ cpd g x R ∨ hasC g R t
/-- how many at the head of an order are copied by dn -/
def ledN (c o : Int → Int) (dn : Int) : Nat → Nat
  | 0 => 0
  | n + 1 => if ledN c o dn n = n ∧ c (o n) ≤ dn then n + 1 else ledN c o dn n
theorem ledN_le {c o : Int → Int} {dn : Int} : ∀ n, ledN c o dn n ≤ n
  | 0 => Nat.le_refl _
  | n + 1 => by have := ledN_le (c := c) (o := o) (dn := dn) n; simp only [ledN]; split <;> omega
theorem ledN_lo {c o : Int → Int} {dn : Int} : ∀ n, ∀ i : Int, 0 ≤ i → i < ledN c o dn n → c (o i) ≤ dn
  | 0, i, h0, h => by simp [ledN] at h; omega
  | n + 1, i, h0, h => by
    simp only [ledN] at h
    split at h
    · rename_i z
      by_cases e : i = n
      · rw [e]; exact z.2
      · exact ledN_lo n i h0 (by rw [z.1]; omega)
    · exact ledN_lo n i h0 h
theorem ledN_hi {c o : Int → Int} {dn : Int} (hs : ∀ i j : Int, 0 ≤ i → i ≤ j → c (o i) ≤ c (o j) ∨ False → True) : ∀ n, ledN c o dn n < n → dn < c (o (ledN c o dn n))
  | 0, h => by simp [ledN] at h
  | n + 1, h => by
    simp only [ledN] at h ⊢
    split at h
    · omega
    · rename_i z
      rw [if_neg z]
      have le := ledN_le (c := c) (o := o) (dn := dn) n
      by_cases e : ledN c o dn n = n
      · rw [e]
        rcases Int.lt_or_le dn (c (o n)) with w | w
        · exact w
        · exact absurd ⟨e, w⟩ z
      · exact ledN_hi hs n (by omega)
/-- the order, made as the row grows -/
def oF (g : GG) : RL → Int → Int
  | [], _ => 0
  | x :: R, i => if i < ledN (copAt g R) (oF g R) (cpd g x R) R.length then oF g R i else if i = ledN (copAt g R) (oF g R) (cpd g x R) R.length then R.length else oF g R (i - 1)
theorem lex_le {c : Int → Int} {p q : Int} (h : lexl c p q) : c p ≤ c q := by unfold lexl at h; omega
theorem oF_ok (g : GG) : ∀ R : RL, OrdOK (oF g R) (copAt g R) R.length
  | [] => ⟨fun i a b => absurd b (by simp; omega), fun i j a b c => absurd c (by simp; omega), fun p a b => absurd b (by simp; omega)⟩
  | x :: R => by
    have ih := oF_ok g R
    have le := ledN_le (c := copAt g R) (o := oF g R) (dn := cpd g x R) R.length
    have lo := ledN_lo (c := copAt g R) (o := oF g R) (dn := cpd g x R) R.length
    have hi := ledN_hi (c := copAt g R) (o := oF g R) (dn := cpd g x R) (fun _ _ _ _ _ => trivial) R.length
    have key := ord_add (o := oF g R) (o2 := oF g (x :: R)) (c := copAt g R) (c2 := copAt g (x :: R)) (n := R.length) (at0 := ledN (copAt g R) (oF g R) (cpd g x R) R.length) (dn := cpd g x R) (by omega) ih (by omega) (fun i i0 i1 => ?_) ?_ (fun i i0 i1 => ?_) lo (fun i i0 i1 => ?_) (fun p p0 p1 => ?_) ?_
    · rw [List.length_cons]; exact key
    · show (if i < _ then _ else _) = _; rw [if_pos i1]
    · show (if _ then _ else if _ then _ else _) = _; rw [if_neg (by omega), if_pos rfl]
    · show (if _ then _ else if _ then _ else _) = _; rw [if_neg (by omega), if_neg (by omega)]; congr 1; omega
    · have h1 := hi (by omega)
      by_cases e : i = ledN (copAt g R) (oF g R) (cpd g x R) R.length
      · rw [e]; exact h1
      · have := lex_le (ih.2.1 (ledN (copAt g R) (oF g R) (cpd g x R) R.length) i (by omega) (by omega) i1)
        omega
    · show (if p = R.length then _ else _) = _; rw [if_neg (by omega)]
    · show (if (R.length : Int) = R.length then _ else _) = _; rw [if_pos rfl]
theorem endV_o (g : GG) (R : RL) : endV g R = endT (copAt g R) (fun p => g.2.1 (kAt R p)) (oF g R) R.length := (endV_eq (oF_ok g R)).symm
/-- sums over an order do not hang on it -/
theorem sm_ins {h0 h : Int → Int} {v : Int} {n a : Nat} (ha : a ≤ n) (h1 : ∀ i : Int, 0 ≤ i → i < a → h i = h0 i) (h2 : h a = v) (h3 : ∀ i : Int, a ≤ i → i < n → h (i + 1) = h0 i) : sm h (n + 1) = sm h0 n + v := by
  have e1 := sm_sp h a (1 + (n - a))
  have e2 := sm_sp h0 a (n - a)
  rw [show a + (1 + (n - a)) = n + 1 by omega] at e1
  rw [show a + (n - a) = n by omega] at e2
  have e3 := sm_sp (fun c => h (a + c)) 1 (n - a)
  have e4 : sm (fun c => h (a + c)) 1 = v := by show 0 + h (a + ((0 : Nat) : Int)) = v; rw [show (a : Int) + ((0 : Nat) : Int) = a by omega, h2, Int.zero_add]
  have e5 : sm (fun c => (fun c => h (a + c)) (((1 : Nat) : Int) + c)) (n - a) = sm (fun c => h0 (a + c)) (n - a) := sm_cg _ (fun c c0 c1 => by
    show h (a + (((1 : Nat) : Int) + c)) = _
    rw [show (a : Int) + (((1 : Nat) : Int) + c) = (a + c) + 1 by omega]; exact h3 _ (by omega) (by omega))
  have e6 : sm h a = sm h0 a := sm_cg a (fun c c0 c1 => h1 c c0 c1)
  rw [e1, e3, e4, e5, e6, e2]; omega
theorem sm_oF (g : GG) (F : Int → Int → Int) : ∀ R : RL, ∀ n, n = R.length → sm (fun i => F (copAt g R (oF g R i)) (g.2.1 (kAt R (oF g R i)))) n = (R.foldr (fun x _ => 0) 0 : Int) + sm (fun p => F (copAt g R p) (g.2.1 (kAt R p))) n
  | [], n, hn => by subst hn; simp [sm]
  | x :: R, n, hn => by
    have ih := sm_oF g F R R.length rfl
    have ok := oF_ok g R
    have le := ledN_le (c := copAt g R) (o := oF g R) (dn := cpd g x R) R.length
    have z : ∀ R : RL, (R.foldr (fun _ _ => (0 : Int)) 0) = 0 := fun R => by cases R <;> rfl
    rw [z] at ih ⊢
    rw [hn, List.length_cons]
    have old : ∀ p : Int, 0 ≤ p → p < R.length → copAt g (x :: R) p = copAt g R p ∧ kAt (x :: R) p = kAt R p := fun p p0 p1 => ⟨by show (if p = R.length then _ else _) = _; rw [if_neg (by omega)], by show (if p = R.length then _ else _) = _; rw [if_neg (by omega)]⟩
    have new : copAt g (x :: R) R.length = cpd g x R ∧ kAt (x :: R) R.length = x.1 := ⟨by show (if (R.length : Int) = R.length then _ else _) = _; rw [if_pos rfl], by show (if (R.length : Int) = R.length then _ else _) = _; rw [if_pos rfl]⟩
    have a1 := sm_ins (h0 := fun i => F (copAt g R (oF g R i)) (g.2.1 (kAt R (oF g R i)))) (h := fun i => F (copAt g (x :: R) (oF g (x :: R) i)) (g.2.1 (kAt (x :: R) (oF g (x :: R) i)))) (v := F (cpd g x R) (g.2.1 x.1)) le (fun i i0 i1 => by
      have e : oF g (x :: R) i = oF g R i := by show (if i < _ then _ else _) = _; rw [if_pos i1]
      have b := ok.1 i i0 (by omega)
      show F (copAt g (x :: R) (oF g (x :: R) i)) (g.2.1 (kAt (x :: R) (oF g (x :: R) i))) = F (copAt g R (oF g R i)) (g.2.1 (kAt R (oF g R i)))
      rw [e, (old _ b.1 b.2).1, (old _ b.1 b.2).2]) (by
      have e : oF g (x :: R) (ledN (copAt g R) (oF g R) (cpd g x R) R.length) = R.length := by show (if _ then _ else if _ then _ else _) = _; rw [if_neg (by omega), if_pos rfl]
      show F (copAt g (x :: R) (oF g (x :: R) (ledN (copAt g R) (oF g R) (cpd g x R) R.length))) (g.2.1 (kAt (x :: R) (oF g (x :: R) (ledN (copAt g R) (oF g R) (cpd g x R) R.length)))) = _
      rw [e, new.1, new.2]) (fun i i0 i1 => by
      have e : oF g (x :: R) (i + 1) = oF g R i := by
        show (if _ then _ else if _ then _ else _) = _; rw [if_neg (by omega), if_neg (by omega)]; congr 1; omega
      have b := ok.1 i (by omega) (by omega)
      show F (copAt g (x :: R) (oF g (x :: R) (i + 1))) (g.2.1 (kAt (x :: R) (oF g (x :: R) (i + 1)))) = F (copAt g R (oF g R i)) (g.2.1 (kAt R (oF g R i)))
      rw [e, (old _ b.1 b.2).1, (old _ b.1 b.2).2])
    rw [a1, ih]
    show 0 + sm _ R.length + _ = 0 + (sm _ R.length + F (copAt g (x :: R) R.length) (g.2.1 (kAt (x :: R) R.length)))
    rw [new.1, new.2]
    have e7 : sm (fun p => F (copAt g (x :: R) p) (g.2.1 (kAt (x :: R) p))) R.length = sm (fun p => F (copAt g R p) (g.2.1 (kAt R p))) R.length := sm_cg _ (fun p p0 p1 => by rw [(old p p0 p1).1, (old p p0 p1).2])
    rw [e7]; omega
theorem WK_sm (g : GG) (t : Int) : ∀ R : RL, WK g R t = sm (fun p => if t ≤ copAt g R p then g.2.1 (kAt R p) else 0) R.length
  | [] => rfl
  | x :: R => by
    have ih := WK_sm g t R
    rw [List.length_cons]
    show WK g R t + (if t ≤ cpd g x R then g.2.1 x.1 else 0) = sm _ R.length + (if t ≤ (if (R.length : Int) = R.length then cpd g x R else copAt g R R.length) then g.2.1 (if (R.length : Int) = R.length then x.1 else kAt R R.length) else 0)
    rw [if_pos rfl, if_pos rfl, ih]
    congr 1
    refine sm_cg _ (fun p p0 p1 => ?_)
    show _ = (if t ≤ (if p = R.length then cpd g x R else copAt g R p) then g.2.1 (if p = R.length then x.1 else kAt R p) else 0)
    have e : ¬ p = R.length := by omega
    rw [if_neg e, if_neg e]
theorem WK_o (g : GG) (R : RL) (t : Int) : WK g R t = sm (fun i => if t ≤ copAt g R (oF g R i) then g.2.1 (kAt R (oF g R i)) else 0) R.length := by
  have := sm_oF g (fun c m => if t ≤ c then m else 0) R R.length rfl
  rw [this, WK_sm]
  have z : ∀ R : RL, (R.foldr (fun _ _ => (0 : Int)) 0) = 0 := fun R => by cases R <;> rfl
  rw [z, Int.zero_add]
theorem hasC_at (g : GG) (t : Int) : ∀ R : RL, hasC g R t ↔ ∃ p : Int, 0 ≤ p ∧ p < R.length ∧ t ≤ copAt g R p
  | [] => ⟨fun h => h.elim, fun ⟨p, a, b, _⟩ => by simp at b; omega⟩
  | x :: R => by
    have ih := hasC_at g t R
    constructor
    · rintro (h | h)
      · exact ⟨R.length, by omega, by simp only [List.length_cons]; omega, by show _ ≤ (if (R.length : Int) = R.length then _ else _); rw [if_pos rfl]; exact h⟩
      · obtain ⟨p, a, b, c⟩ := ih.mp h
        exact ⟨p, a, by simp only [List.length_cons]; omega, by show _ ≤ (if p = R.length then _ else _); rw [if_neg (by omega)]; exact c⟩
    · rintro ⟨p, a, b, c⟩
      change t ≤ (if p = R.length then cpd g x R else copAt g R p) at c
      by_cases e : p = R.length
      · rw [if_pos e] at c; exact Or.inl c
      · rw [if_neg e] at c; exact Or.inr (ih.mpr ⟨p, a, by simp only [List.length_cons] at b; omega, c⟩)
theorem sm_le {f h : Int → Int} : ∀ n : Nat, (∀ c : Int, 0 ≤ c → c < n → f c ≤ h c) → sm f n ≤ sm h n
  | 0, _ => Int.le_refl _
  | n + 1, q => by simp only [sm]; have := sm_le n (fun c a b => q c a (by omega)); have := q n (by omega) (by omega); omega
/-- FIFO over an order with rising times -/
theorem fifo {c m o : Int → Int} (hc : ∀ i, 0 ≤ c (o i)) : ∀ n : Nat, (∀ j : Nat, j < n → c (o j) + (sm (fun i => m (o i)) n - sm (fun i => m (o i)) j) ≤ endT c m o n) ∧ (0 < n → ∃ j : Nat, j < n ∧ endT c m o n = c (o j) + (sm (fun i => m (o i)) n - sm (fun i => m (o i)) j))
  | 0 => ⟨fun j h => absurd h (by omega), fun h => absurd h (by omega)⟩
  | n + 1 => by
    have ih := fifo (m := m) hc n
    have es : sm (fun i => m (o i)) (n + 1) = sm (fun i => m (o i)) n + m (o n) := rfl
    have et : endT c m o (n + 1) = max (endT c m o n) (c (o n)) + m (o n) := rfl
    refine ⟨fun j hj => ?_, fun _ => ?_⟩
    · rw [es, et]
      by_cases e : j = n
      · subst e; omega
      · have := ih.1 j (by omega); omega
    · rw [es, et]
      by_cases e : endT c m o n ≤ c (o n)
      · exact ⟨n, by omega, by omega⟩
      · rcases Nat.eq_zero_or_pos n with z | z
        · subst z
          have h0 : endT c m o 0 = 0 := rfl
          have := hc ((0 : Nat) : Int)
          omega
        · obtain ⟨j, a, b⟩ := ih.2 z
          exact ⟨j, by omega, by omega⟩
theorem sm_tail {B : Int → Int} {n j : Nat} (hj : j ≤ n) : sm B n - sm B j = sm (fun c => B (j + c)) (n - j) := by
  have := sm_sp B j (n - j)
  rw [show j + (n - j) = n by omega] at this
  omega
theorem rise (g : GG) (R : RL) {i j : Int} (h0 : 0 ≤ i) (h1 : i ≤ j) (h2 : j < R.length) : copAt g R (oF g R i) ≤ copAt g R (oF g R j) := by
  by_cases e : i = j
  · rw [e]; exact Int.le_refl _
  · exact lex_le ((oF_ok g R).2.1 i j h0 (by omega) h2)
/-- EV: what the end is, of a row of letters that are there -/
theorem EV1 {g : GG} {R : RL} (hb : Rb g R) (hm : ∀ p : Int, 0 ≤ p → p < R.length → 0 ≤ g.2.1 (kAt R p)) {t : Int} (h : hasC g R t) : t + WK g R t ≤ endV g R := by
  have ok := oF_ok g R
  have F := fifo (c := copAt g R) (m := fun p => g.2.1 (kAt R p)) (o := oF g R) (fun i => (copAt_b hb _).1) R.length
  -- the first place of the order at t or later
  obtain ⟨p, p0, p1, p2⟩ := (hasC_at g t R).mp h
  obtain ⟨i, i0, i1, i2⟩ := ok.2.2 p p0 p1
  have first : ∀ n : Nat, (∃ j : Nat, j < n ∧ t ≤ copAt g R (oF g R j)) → ∃ j : Nat, j < n ∧ t ≤ copAt g R (oF g R j) ∧ ∀ l : Nat, l < j → copAt g R (oF g R l) < t := by
    intro n
    induction n with
    | zero => rintro ⟨j, a, _⟩; omega
    | succ n ih =>
      rintro ⟨j, a, b⟩
      by_cases e : ∃ j : Nat, j < n ∧ t ≤ copAt g R (oF g R j)
      · obtain ⟨j, a, b⟩ := ih e; exact ⟨j, by omega, b⟩
      · have : j = n := by
          rcases Nat.lt_or_ge j n with w | w
          · exact absurd ⟨j, w, b⟩ e
          · omega
        subst this
        refine ⟨j, a, b, fun l hl => ?_⟩
        rcases Int.lt_or_le (copAt g R (oF g R l)) t with w | w
        · exact w
        · exact absurd ⟨l, hl, w⟩ e
  obtain ⟨j, a, b, c⟩ := first R.length ⟨i.toNat, by omega, by rw [show ((i.toNat : Nat) : Int) = i by omega, i2]; exact p2⟩
  have tl := sm_tail (B := fun i => g.2.1 (kAt R (oF g R i))) (n := R.length) (j := j) (by omega)
  have wk : WK g R t = sm (fun c => g.2.1 (kAt R (oF g R (j + c)))) (R.length - j) := by
    rw [WK_o]
    have sp := sm_sp (fun i => if t ≤ copAt g R (oF g R i) then g.2.1 (kAt R (oF g R i)) else 0) j (R.length - j)
    rw [show j + (R.length - j) = R.length by omega] at sp
    rw [sp]
    have z : sm (fun i => if t ≤ copAt g R (oF g R i) then g.2.1 (kAt R (oF g R i)) else 0) j = sm (fun _ => 0) j := sm_cg j (fun q q0 q1 => by
      have := c q.toNat (by omega)
      rw [show ((q.toNat : Nat) : Int) = q by omega] at this
      exact if_neg (by omega))
    have z2 : ∀ n : Nat, sm (fun _ => (0 : Int)) n = 0 := fun n => by
      induction n with
      | zero => rfl
      | succ n ih => show sm (fun _ => (0 : Int)) n + 0 = 0; rw [ih]; rfl
    rw [z, z2, Int.zero_add]
    refine sm_cg _ (fun q q0 q1 => ?_)
    have := rise g R (i := j) (j := j + q) (by omega) (by omega) (by omega)
    exact if_pos (by omega)
  have := F.1 j a
  rw [endV_o, wk]
  have e2 : sm (fun i => (fun p => g.2.1 (kAt R p)) (oF g R i)) R.length - sm (fun i => (fun p => g.2.1 (kAt R p)) (oF g R i)) j = sm (fun c => g.2.1 (kAt R (oF g R (j + c)))) (R.length - j) := tl
  rw [e2] at this
  omega
theorem EV2 {g : GG} {R : RL} (hb : Rb g R) (hm : ∀ p : Int, 0 ≤ p → p < R.length → 0 ≤ g.2.1 (kAt R p)) (hn : R ≠ []) : ∃ t, hasC g R t ∧ endV g R ≤ t + WK g R t := by
  have ok := oF_ok g R
  have F := fifo (c := copAt g R) (m := fun p => g.2.1 (kAt R p)) (o := oF g R) (fun i => (copAt_b hb _).1) R.length
  have pos : 0 < R.length := by cases R with | nil => exact absurd rfl hn | cons x R => simp
  obtain ⟨j, a, b⟩ := F.2 pos
  have oj := ok.1 j (by omega) (by omega)
  refine ⟨copAt g R (oF g R j), (hasC_at g _ R).mpr ⟨_, oj.1, oj.2, Int.le_refl _⟩, ?_⟩
  have tl := sm_tail (B := fun i => g.2.1 (kAt R (oF g R i))) (n := R.length) (j := j) (by omega)
  have e2 : sm (fun i => (fun p => g.2.1 (kAt R p)) (oF g R i)) R.length - sm (fun i => (fun p => g.2.1 (kAt R p)) (oF g R i)) j = sm (fun c => g.2.1 (kAt R (oF g R (j + c)))) (R.length - j) := tl
  rw [e2] at b
  rw [endV_o, b, WK_o]
  have sp := sm_sp (fun i => if copAt g R (oF g R j) ≤ copAt g R (oF g R i) then g.2.1 (kAt R (oF g R i)) else 0) j (R.length - j)
  rw [show j + (R.length - j) = R.length by omega] at sp
  rw [sp]
  have z2 : ∀ n : Nat, sm (fun _ => (0 : Int)) n = 0 := fun n => by
    induction n with
    | zero => rfl
    | succ n ih => show sm (fun _ => (0 : Int)) n + 0 = 0; rw [ih]; rfl
  have l1 : sm (fun _ => (0 : Int)) j ≤ sm (fun i => if copAt g R (oF g R j) ≤ copAt g R (oF g R i) then g.2.1 (kAt R (oF g R i)) else 0) j := sm_le j (fun q q0 q1 => by
    have := ok.1 q q0 (by omega)
    have := hm _ this.1 this.2
    show 0 ≤ (if copAt g R (oF g R j) ≤ copAt g R (oF g R q) then g.2.1 (kAt R (oF g R q)) else 0)
    split <;> omega)
  rw [z2] at l1
  have l2 : sm (fun c => g.2.1 (kAt R (oF g R (j + c)))) (R.length - j) ≤ sm (fun c => if copAt g R (oF g R j) ≤ copAt g R (oF g R (j + c)) then g.2.1 (kAt R (oF g R (j + c))) else 0) (R.length - j) := sm_le _ (fun q q0 q1 => by
    have := rise g R (i := j) (j := j + q) (by omega) (by omega) (by omega)
    show g.2.1 (kAt R (oF g R (j + q))) ≤ (if copAt g R (oF g R j) ≤ copAt g R (oF g R (j + q)) then g.2.1 (kAt R (oF g R (j + q))) else 0)
    rw [if_pos this]; exact Int.le_refl _)
  omega
/-- a row that brings less and later nothing does not end later -/
theorem EVle {g g2 : GG} {R R2 : RL} (hb : Rb g R) (hm : ∀ p : Int, 0 ≤ p → p < R.length → 0 ≤ g.2.1 (kAt R p)) (hb2 : Rb g2 R2) (hm2 : ∀ p : Int, 0 ≤ p → p < R2.length → 0 ≤ g2.2.1 (kAt R2 p)) (hn : 0 ≤ endV g2 R2) (h1 : ∀ t, hasC g R t → hasC g2 R2 t) (h2 : ∀ t, WK g R t ≤ WK g2 R2 t) : endV g R ≤ endV g2 R2 := by
  by_cases e : R = []
  · subst e
    have : endV g [] = 0 := by rw [endV_o]; rfl
    rw [this]; exact hn
  · obtain ⟨t, a, b⟩ := EV2 hb hm e
    have := EV1 hb2 hm2 (h1 t a)
    have := h2 t
    omega
