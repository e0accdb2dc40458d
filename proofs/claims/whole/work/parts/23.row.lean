/-! A ROW: letters by hands, the last one first -/
abbrev GG : Type := (Int → Int) × (Int → Int) × (Int → Int → Int)
abbrev RL : Type := List (Int × Int)
/-- when the last is open -/
def opn (g : GG) : RL → Int
  | [] => 0
  | x :: R => opn g R + g.1 x.1
/-- when a hand is done -/
def fre (g : GG) : RL → Int → Int
  | [], _ => 0
  | x :: R, h => if x.2 = h then max (opn g R + g.1 x.1) (fre g R x.2) + g.2.2 x.1 x.2 else fre g R h
/-- when x is copied behind R -/
def cpd (g : GG) (x : Int × Int) (R : RL) : Int := max (opn g R + g.1 x.1) (fre g R x.2) + g.2.2 x.1 x.2
def Gb (g : GG) (x : Int × Int) : Prop := (0 ≤ g.1 x.1 ∧ g.1 x.1 ≤ 999) ∧ (0 ≤ g.2.1 x.1 ∧ g.2.1 x.1 ≤ 999) ∧ (0 ≤ g.2.2 x.1 x.2 ∧ g.2.2 x.1 x.2 ≤ 999)
def Rb (g : GG) : RL → Prop
  | [] => True
  | x :: R => Gb g x ∧ Rb g R
theorem opn_b {g : GG} : ∀ {R : RL}, Rb g R → 0 ≤ opn g R ∧ opn g R ≤ 999 * R.length
  | [], _ => by simp [opn]
  | x :: R, h => by
    have ih := opn_b h.2
    have h1 := h.1.1
    simp only [opn, List.length_cons]
    omega
theorem fre_b {g : GG} : ∀ {R : RL}, Rb g R → ∀ h, 0 ≤ fre g R h ∧ fre g R h ≤ 1998 * R.length
  | [], _, _ => by simp [fre]
  | x :: R, hb, h => by
    have ih := fre_b hb.2
    have io := opn_b hb.2
    have h1 := hb.1
    simp only [fre, List.length_cons]
    split
    · have := ih x.2
      obtain ⟨a1, a2, a3⟩ := h1
      omega
    · have := ih h
      omega
theorem cpd_b {g : GG} {x : Int × Int} {R : RL} (hx : Gb g x) (h : Rb g R) : 0 ≤ cpd g x R ∧ cpd g x R ≤ 1998 * (R.length + 1) := by
  have io := opn_b h
  have f := fre_b h x.2
  obtain ⟨a1, a2, a3⟩ := hx
  unfold cpd
  omega
/-- letters, hands, minutes as four arrays hold them -/
def RowA (σ : Mem) (a b c e : Nat) (g : GG) : RL → Prop
  | [] => True
  | x :: R => σ a R.length = x.1 ∧ σ b R.length = x.2 ∧ σ c R.length = opn g R + g.1 x.1 ∧ σ e R.length = cpd g x R ∧ RowA σ a b c e g R
theorem RowA.congr {σ τ : Mem} {a b c e : Nat} {g : GG} : ∀ {R : RL}, RowA σ a b c e g R → (∀ i : Int, 0 ≤ i → i < R.length → τ a i = σ a i ∧ τ b i = σ b i ∧ τ c i = σ c i ∧ τ e i = σ e i) → RowA τ a b c e g R
  | [], _, _ => trivial
  | x :: R, h, q => by
    obtain ⟨h1, h2, h3, h4, h5⟩ := h
    obtain ⟨q1, q2, q3, q4⟩ := q R.length (by omega) (by simp only [List.length_cons]; omega)
    exact ⟨by rw [q1, h1], by rw [q2, h2], by rw [q3, h3], by rw [q4, h4], RowA.congr h5 (fun i h0 hi => q i h0 (by simp only [List.length_cons]; omega))⟩
/-- by places -/
def copAt (g : GG) : RL → Int → Int
  | [], _ => 0
  | x :: R, p => if p = R.length then cpd g x R else copAt g R p
def kAt : RL → Int → Int
  | [], _ => 0
  | x :: R, p => if p = R.length then x.1 else kAt R p
def hAt : RL → Int → Int
  | [], _ => 0
  | x :: R, p => if p = R.length then x.2 else hAt R p
theorem RowA.at {σ : Mem} {a b c e : Nat} {g : GG} : ∀ {R : RL}, RowA σ a b c e g R → ∀ p : Int, 0 ≤ p → p < R.length → σ a p = kAt R p ∧ σ b p = hAt R p ∧ σ e p = copAt g R p
  | [], _, p, h0, h => absurd h (by simp only [List.length_nil]; omega)
  | x :: R, hR, p, h0, h => by
    obtain ⟨h1, h2, h3, h4, h5⟩ := hR
    simp only [kAt, hAt, copAt]
    by_cases e : p = R.length
    · subst e; rw [if_pos rfl, if_pos rfl, if_pos rfl]; exact ⟨h1, h2, h4⟩
    · rw [if_neg e, if_neg e, if_neg e]
      exact RowA.at h5 p h0 (by simp only [List.length_cons] at h; omega)
theorem copAt_b {g : GG} : ∀ {R : RL}, Rb g R → ∀ p, 0 ≤ copAt g R p ∧ copAt g R p ≤ 1998 * R.length
  | [], _, p => by simp [copAt]
  | x :: R, h, p => by
    simp only [copAt, List.length_cons]
    split
    · have := cpd_b h.1 h.2; omega
    · have := copAt_b h.2 p; omega
theorem kAt_mem {P : Int × Int → Prop} : ∀ {R : RL}, (∀ x ∈ R, P x) → ∀ p : Int, 0 ≤ p → p < R.length → ∃ x, P x ∧ kAt R p = x.1 ∧ hAt R p = x.2
  | [], _, p, h0, h => absurd h (by simp only [List.length_nil]; omega)
  | x :: R, hR, p, h0, h => by
    simp only [kAt, hAt]
    by_cases e : p = R.length
    · rw [if_pos e, if_pos e]; exact ⟨x, hR x List.mem_cons_self, rfl, rfl⟩
    · rw [if_neg e, if_neg e]
      exact kAt_mem (fun y hy => hR y (List.mem_cons_of_mem _ hy)) p h0 (by simp only [List.length_cons] at h; omega)
/-- the order at the table to mend: by when they are copied, then by places -/
def lexl (c : Int → Int) (p q : Int) : Prop := c p < c q ∨ c p = c q ∧ p < q
def OrdOK (o c : Int → Int) (n : Int) : Prop := (∀ i, 0 ≤ i → i < n → 0 ≤ o i ∧ o i < n) ∧ (∀ i j, 0 ≤ i → i < j → j < n → lexl c (o i) (o j)) ∧ (∀ p, 0 ≤ p → p < n → ∃ i, 0 ≤ i ∧ i < n ∧ o i = p)
theorem lexl_irr {c : Int → Int} {p : Int} : ¬ lexl c p p := by unfold lexl; omega
theorem lexl_asym {c : Int → Int} {p q : Int} (h : lexl c p q) : ¬ lexl c q p := by unfold lexl at *; omega
theorem lexl_tr {c : Int → Int} {p q r : Int} (h : lexl c p q) (h2 : lexl c q r) : lexl c p r := by unfold lexl at *; omega
theorem OrdOK.inj {o c : Int → Int} {n i j : Int} (h : OrdOK o c n) (hi : 0 ≤ i ∧ i < n) (hj : 0 ≤ j ∧ j < n) (e : o i = o j) : i = j := by
  rcases Int.lt_trichotomy i j with q | q | q
  · have := h.2.1 i j hi.1 q hj.2; rw [e] at this; exact absurd this lexl_irr
  · exact q
  · have := h.2.1 j i hj.1 q hi.2; rw [e] at this; exact absurd this lexl_irr
theorem OrdOK.uniq {o o2 c : Int → Int} {n : Int} (h : OrdOK o c n) (h2 : OrdOK o2 c n) : ∀ (m : Nat) (i : Int), i = m → i < n → o i = o2 i := by
  intro m
  induction m using Nat.strongRecOn with
  | ind m ih =>
    intro i hm hi
    have h0 : 0 ≤ i := by omega
    rcases Classical.em (o i = o2 i) with q | q
    · exact q
    · exfalso
      have side : ∀ {a b : Int → Int}, OrdOK a c n → OrdOK b c n → (∀ j, 0 ≤ j → j < i → a j = b j) → ¬ a i = b i → lexl c (a i) (b i) := by
        intro a b ha hb hab hne
        obtain ⟨j, j0, j1, j2⟩ := ha.2.2 (b i) (hb.1 i h0 hi).1 (hb.1 i h0 hi).2
        rcases Int.lt_trichotomy j i with z | z | z
        · have := hab j j0 z; rw [j2] at this
          exact absurd (hb.inj ⟨h0, hi⟩ ⟨j0, j1⟩ this) (by omega)
        · subst z; exact absurd j2 hne
        · have := ha.2.1 i j h0 z j1; rwa [j2] at this
      have l1 := side h h2 (fun j j0 j1 => ih j.toNat (by omega) j (by omega) (by omega)) q
      have l2 := side h2 h (fun j j0 j1 => (ih j.toNat (by omega) j (by omega) (by omega)).symm) (fun z => q z.symm)
      exact lexl_asym l1 l2
/-- when the table is free behind i of them -/
def endT (c m o : Int → Int) : Nat → Int
  | 0 => 0
  | i + 1 => max (endT c m o i) (c (o i)) + m (o i)
theorem endT_congr {c m o o2 : Int → Int} : ∀ {n : Nat}, (∀ i : Int, 0 ≤ i → i < n → o i = o2 i) → endT c m o n = endT c m o2 n
  | 0, _ => rfl
  | n + 1, h => by
    simp only [endT]
    rw [endT_congr (n := n) (fun i h0 hi => h i h0 (by omega)), h n (by omega) (by omega)]
/-- the minute at which all are mended -/
noncomputable def endV (g : GG) (R : RL) : Int := @dite Int (∃ o, OrdOK o (copAt g R) R.length) (Classical.propDecidable _) (fun h => endT (copAt g R) (fun p => g.2.1 (kAt R p)) (Classical.choose h) R.length) (fun _ => 0)
theorem endV_eq {g : GG} {R : RL} {o : Int → Int} (h : OrdOK o (copAt g R) R.length) : endT (copAt g R) (fun p => g.2.1 (kAt R p)) o R.length = endV g R := by
  have hx : ∃ o, OrdOK o (copAt g R) R.length := ⟨o, h⟩
  unfold endV
  rw [dif_pos hx]
  exact endT_congr (fun i h0 hi => OrdOK.uniq h (Classical.choose_spec hx) i.toNat i (by omega) hi)
