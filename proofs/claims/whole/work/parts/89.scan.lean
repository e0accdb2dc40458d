/-! tokens, as the scan lays them -/
def wsp (c : Int) : Prop := c = 10 ∨ c = 32
def sgn (c : Int) : Prop := c = 59 ∨ c = 58 ∨ c = 43 ∨ c = 45 ∨ c = 42 ∨ c = 40 ∨ c = 41
def numF (t : Int → Int) (s : Int) : Nat → Int
  | 0 => 0
  | m + 1 => 10 * numF t s m + (t (s + m) - 48)
theorem numF_b {t : Int → Int} {s : Int} : ∀ m : Nat, m ≤ 3 → (∀ i : Int, 0 ≤ i → i < m → dgt (t (s + i))) → 0 ≤ numF t s m ∧ numF t s m ≤ 999 ∧ (m ≤ 2 → numF t s m ≤ 99) ∧ (m ≤ 1 → numF t s m ≤ 9)
  | 0, _, _ => by simp [numF]
  | m + 1, hm, h => by
    have ih := numF_b (t := t) (s := s) m (by omega) (fun i a b => h i a (by omega))
    have hd := h m (by omega) (by omega)
    unfold dgt at hd
    have e : numF t s (m + 1) = 10 * numF t s m + (t (s + m) - 48) := rfl
    have z : m = 0 → numF t s m = 0 := fun z => by rw [z]; rfl
    rw [e]
    rcases (show m = 0 ∨ m = 1 ∨ m = 2 by omega) with q | q | q
    · have := z q; omega
    · have := ih.2.2.2 (by omega); omega
    · have := ih.2.2.1 (by omega); omega
/-- where a token that begins at s ends -/
def TkE (t : Int → Int) (n s e : Int) : Prop := (s < e ∧ e ≤ n) ∧ (sml (t s) → (∀ i : Int, s ≤ i → i < e → sml (t i)) ∧ ¬ (e < n ∧ sml (t e))) ∧ (dgt (t s) → (∀ i : Int, s ≤ i → i < e → dgt (t i)) ∧ ¬ (e < n ∧ dgt (t e))) ∧ (¬ sml (t s) → ¬ dgt (t s) → e = s + 1)
/-- the token from s to e: its kind, its number or its length -/
def TK (t : Int → Int) (n s e k v : Int) : Prop := 0 ≤ s ∧ ¬ wsp (t s) ∧ TkE t n s e ∧ (sml (t s) → v = e - s ∧ wKd t s e k) ∧ (dgt (t s) → k = (if e - s ≤ 3 then 1 else 2) ∧ v = numF t s (min 3 (e - s).toNat)) ∧ (¬ sml (t s) → ¬ dgt (t s) → (sgn (t s) → k = t s) ∧ (¬ sgn (t s) → k = 2))
def WS (t : Int → Int) (a b : Int) : Prop := a ≤ b ∧ ∀ i : Int, a ≤ i → i < b → wsp (t i)
def pe (en : Int → Int) (j : Int) : Int := if j = 0 then 0 else en (j - 1)
/-- N tokens of the text t of n letters -/
def TokOK (t : Int → Int) (n N : Int) (kd st vl en : Int → Int) : Prop := (0 ≤ N ∧ N ≤ n) ∧ (∀ j : Int, 0 ≤ j → j < N → TK t n (st j) (en j) (kd j) (vl j) ∧ j ≤ st j) ∧ (∀ j : Int, 0 ≤ j → j ≤ N → WS t (pe en j) (st j)) ∧ kd N = 0 ∧ st N = n ∧ en N = n
theorem sd_x {c : Int} (h : sml c) : ¬ dgt c := by unfold sml dgt at *; omega
section
variable {E : EN} {d : Nat} {σ : Mem} {t : Int → Int} {n : Int}
theorem s_Rdr_tokenEnd {K : Int → Mem → Prop} {s : Int} (hd : 1 ≤ d) (hB : Byt σ t n) (hs : 0 ≤ s ∧ s < n) (q : ∀ e, TkE t n s e → K e σ) : CI E y_Rdr_tokenEnd d [vr 64, vi s, vi n] σ K := by
  have n9 := hB.1
  have lS : sml (t s) → ∀ (m : Nat) (e : Int) (o1 : Option AV), s < e → e + m = n → (∀ i : Int, s ≤ i → i < e → sml (t i)) → Z E y_Rdr_tokenEnd d 16 [some (vr 64), o1, some (vi n), some (vi e)] [] σ (qi K) := by
    intro h0 m
    have fin : ∀ e, s < e → e ≤ n → (∀ i : Int, s ≤ i → i < e → sml (t i)) → ¬ (e < n ∧ sml (t e)) → K e σ := fun e a b c f => q e ⟨⟨a, b⟩, fun _ => ⟨c, f⟩, fun z => absurd z (sd_x h0), fun z => absurd h0 z⟩
    induction m with
    | zero =>
      intro e o1 he hm hall
      exact b_Rdr_tokenEnd_16 (a1 := 0) hd ⟨fun _ => fin e he (by omega) hall (by omega), fun z => absurd z (by omega)⟩
    | succ m ih =>
      intro e o1 he hm hall
      refine b_Rdr_tokenEnd_16 (a1 := 0) hd ⟨fun z => absurd z (by omega), fun _ => ⟨by omega, s_Rdr_isSmall hB (by omega) (by omega) (fun y => ⟨fun z => absurd z (by decide), fun _ => ?_⟩) (fun y => ⟨fun _ => fin e he (by omega) hall (fun z => y z.2), fun z => absurd rfl z⟩)⟩⟩
      rw [wid (x := e + 1) (by omega) (by omega)]
      refine ih (e + 1) o1 (by omega) (by omega) (fun i a b => ?_)
      by_cases z : i = e
      · rw [z]; exact y
      · exact hall i a (by omega)
  have lD : dgt (t s) → ∀ (m : Nat) (e : Int) (o1 : Option AV), s < e → e + m = n → (∀ i : Int, s ≤ i → i < e → dgt (t i)) → Z E y_Rdr_tokenEnd d 51 [some (vr 64), o1, some (vi n), some (vi e)] [] σ (qi K) := by
    intro h0 m
    have fin : ∀ e, s < e → e ≤ n → (∀ i : Int, s ≤ i → i < e → dgt (t i)) → ¬ (e < n ∧ dgt (t e)) → K e σ := fun e a b c f => q e ⟨⟨a, b⟩, fun z => absurd h0 (sd_x z), fun _ => ⟨c, f⟩, fun _ z => absurd h0 z⟩
    induction m with
    | zero =>
      intro e o1 he hm hall
      exact b_Rdr_tokenEnd_51 (a1 := 0) hd ⟨fun _ => fin e he (by omega) hall (by omega), fun z => absurd z (by omega)⟩
    | succ m ih =>
      intro e o1 he hm hall
      refine b_Rdr_tokenEnd_51 (a1 := 0) hd ⟨fun z => absurd z (by omega), fun _ => ⟨by omega, s_Rdr_isDigit hB (by omega) (by omega) (fun y => ⟨fun z => absurd z (by decide), fun _ => ?_⟩) (fun y => ⟨fun _ => fin e he (by omega) hall (fun z => y z.2), fun z => absurd rfl z⟩)⟩⟩
      rw [wid (x := e + 1) (by omega) (by omega)]
      refine ih (e + 1) o1 (by omega) (by omega) (fun i a b => ?_)
      by_cases z : i = e
      · rw [z]; exact y
      · exact hall i a (by omega)
  refine c_Rdr_tokenEnd (b_Rdr_tokenEnd_0 hd ⟨by omega, ?_⟩)
  rw [wid (x := s + 1) (by omega) (by omega)]
  refine s_Rdr_isSmall hB hs.1 hs.2 (fun y => ⟨fun z => absurd z (by decide), fun _ => lS y (n - (s + 1)).toNat (s + 1) _ (by omega) (by omega) (fun i a b => ?_)⟩) (fun y => ⟨fun _ => s_Rdr_isDigit hB hs.1 hs.2 (fun x => ⟨fun z => absurd z (by decide), fun _ => lD x (n - (s + 1)).toNat (s + 1) _ (by omega) (by omega) (fun i a b => ?_)⟩) (fun x => ⟨fun _ => q (s + 1) ⟨⟨by omega, by omega⟩, fun z => absurd z y, fun z => absurd z x, fun _ _ => rfl⟩, fun z => absurd rfl z⟩), fun z => absurd rfl z⟩)
  · rw [show i = s by omega]; exact y
  · rw [show i = s by omega]; exact x
theorem s_Rdr_numberAt {K : Int → Mem → Prop} {s e : Int} (hB : Byt σ t n) (hs : 0 ≤ s ∧ s < e ∧ e ≤ n) (hall : ∀ i : Int, s ≤ i → i < e → dgt (t i)) (q : K (numF t s (min 3 (e - s).toNat)) σ) : CI E y_Rdr_numberAt d [vr 64, vi s, vi e] σ K := by
  have n9 := hB.1
  refine c_Rdr_numberAt (b_Rdr_numberAt_0 ?_)
  have loop : ∀ (c m : Nat), m + c = min 3 (e - s).toNat → Z E y_Rdr_numberAt d 5 [some (vr 64), some (vi s), some (vi e), some (vi (numF t s m)), some (vi (s + m))] [] σ (qi K) := by
    intro c
    induction c with
    | zero =>
      intro m hm
      have em : m = min 3 (e - s).toNat := by omega
      rw [em]
      refine b_Rdr_numberAt_5 ⟨fun _ => q, fun z => ?_⟩
      rw [wid (x := s + 3) (by omega) (by omega)]
      exact ⟨fun _ => q, fun y => absurd y (by omega)⟩
    | succ c ih =>
      intro m hm
      have nb := numF_b (t := t) (s := s) m (by omega) (fun i a b => hall (s + i) (by omega) (by omega))
      have dg := hall (s + m) (by omega) (by omega)
      have n2 := nb.2.2.1 (by omega)
      have bt1 := (hB.2 (s + m) (by omega) (by omega)).1
      have be : σ 1 (s + m) = t (s + m) := by rw [bt1]; unfold dgt at dg; unfold w8; omega
      refine b_Rdr_numberAt_5 ⟨fun z => absurd z (by omega), fun _ => ?_⟩
      rw [wid (x := s + 3) (by omega) (by omega)]
      refine ⟨fun z => absurd z (by omega), fun _ => ⟨by omega, ?_⟩⟩
      unfold dgt at dg
      rw [be, wid (x := t (s + m) - 48) (by omega) (by omega), wid (x := numF t s m * 10) (by omega) (by omega), wid (x := numF t s m * 10 + (t (s + m) - 48)) (by omega) (by omega), wid (x := s + m + 1) (by omega) (by omega)]
      have := ih (m + 1) (by omega)
      have e1 : numF t s (m + 1) = numF t s m * 10 + (t (s + m) - 48) := by show 10 * numF t s m + _ = _; omega
      rw [e1, show s + ((m + 1 : Nat) : Int) = s + m + 1 by omega] at this
      exact this
  have l0 := loop (min 3 (e - s).toNat) 0 (by omega)
  rw [show s + ((0 : Nat) : Int) = s by omega] at l0
  exact l0
theorem s_Rdr_setToken {K : Mem → Prop} {j s e : Int} (hd : 6 ≤ d) (hB : Byt σ t n) (hj : 0 ≤ j ∧ j < 900) (hs : 0 ≤ s) (hw : ¬ wsp (t s)) (he : TkE t n s e) (q : ∀ k v, TK t n s e k v → K (up (up σ 67 j v) 65 j k)) : CV E y_Rdr_setToken d [vr 64, vi j, vi s, vi e] σ K := by
  have n9 := hB.1
  have hb := he.1
  have sw : ∀ (σ : Mem) (a b : Int), up (up σ 65 j a) 67 j b = up (up σ 67 j b) 65 j a := fun σ a b => by
    funext c k; simp only [up]; by_cases h1 : c = 65 <;> by_cases h2 : c = 67 <;> simp [h1, h2] <;> omega
  have two : ∀ (σ : Mem) (a b : Int), up (up σ 67 j a) 67 j b = up σ 67 j b := fun σ a b => by
    funext c k; simp only [up]; by_cases h1 : c = 67 ∧ k = j <;> simp [h1]
  refine c_Rdr_setToken (b_Rdr_setToken_0 (by omega) ⟨by omega, by omega, ?_⟩)
  rw [wid (x := e - s) (by omega) (by omega)]
  have hB2 : Byt (up σ 67 j (e - s)) t n := hB.fr (up_cell (by decide))
  have e1 : σ 1 s = (up σ 67 j (e - s)) 1 s := by rw [up_nc (by decide)]
  have b59 := (hB.c hs (by omega) (c := 59) (by omega)).1
  have b58 := (hB.c hs (by omega) (c := 58) (by omega)).1
  have b43 := (hB.c hs (by omega) (c := 43) (by omega)).1
  have b45 := (hB.c hs (by omega) (c := 45) (by omega)).1
  have b42 := (hB.c hs (by omega) (c := 42) (by omega)).1
  have b40 := (hB.c hs (by omega) (c := 40) (by omega)).1
  have b41 := (hB.c hs (by omega) (c := 41) (by omega)).1
  rw [e1]
  refine s_Rdr_isSmall hB2 hs (by omega) (fun y => ⟨fun z => absurd z (by decide), fun _ => ?_⟩) (fun y => ⟨fun _ => s_Rdr_isDigit hB2 hs (by omega) (fun x => ⟨fun z => absurd z (by decide), fun _ => ?_⟩) (fun x => ⟨fun _ => ?_, fun z => absurd rfl z⟩), fun z => absurd rfl z⟩)
  · exact s_Rdr_word (by omega) hB2 ⟨hs, by omega, by omega⟩ (fun x hx => q x (e - s) ⟨hs, hw, he, fun _ => ⟨rfl, hx⟩, fun z => absurd z (sd_x y), fun z => absurd y z⟩)
  · have hv := fun k => q k (numF t s (min 3 (e - s).toNat))
    have all := (he.2.2.1 x).1
    refine ⟨fun le => ?_, fun gt => ?_⟩
    · refine s_Rdr_numberAt (hB2.fr (up_cell (by decide))) ⟨hs, hb.1, hb.2⟩ all ?_
      rw [sw, two]
      exact hv 1 ⟨hs, hw, he, fun z => absurd z y, fun _ => ⟨by rw [if_pos le], rfl⟩, fun _ z => absurd x z⟩
    · refine s_Rdr_numberAt (hB2.fr (up_cell (by decide))) ⟨hs, hb.1, hb.2⟩ all ?_
      rw [sw, two]
      exact hv 2 ⟨hs, hw, he, fun z => absurd z y, fun _ => ⟨by rw [if_neg (by omega)], rfl⟩, fun _ z => absurd x z⟩
  · rw [← e1]
    have yes : sgn (t s) → σ 1 s = t s → K (up (up σ 67 j (e - s)) 65 j (σ 1 s)) := fun g eq => q _ _ ⟨hs, hw, he, fun z => absurd z y, fun z => absurd z x, fun _ _ => ⟨fun _ => eq, fun z => absurd g z⟩⟩
    unfold sgn at yes
    refine c_Rdr_isSign (b_Rdr_isSign_0 ⟨fun a => ⟨fun z => absurd z (by decide), fun _ => yes (by omega) (by omega)⟩, fun a1 => ⟨fun a => ⟨fun z => absurd z (by decide), fun _ => yes (by omega) (by omega)⟩, fun a2 => ⟨fun a => ⟨fun z => absurd z (by decide), fun _ => yes (by omega) (by omega)⟩, fun a3 => ⟨fun a => ⟨fun z => absurd z (by decide), fun _ => yes (by omega) (by omega)⟩, fun a4 => ⟨fun a => ⟨fun z => absurd z (by decide), fun _ => yes (by omega) (by omega)⟩, fun a5 => ⟨fun a => ⟨fun z => absurd z (by decide), fun _ => yes (by omega) (by omega)⟩, fun a6 => ⟨fun a7 => ⟨fun _ => ?_, fun z => absurd rfl z⟩, fun a => ⟨fun z => absurd z (by decide), fun _ => yes (by omega) (by omega)⟩⟩⟩⟩⟩⟩⟩⟩)
    exact q 2 (e - s) ⟨hs, hw, he, fun z => absurd z y, fun z => absurd z x, fun _ _ => ⟨fun g => by unfold sgn at g; omega, fun _ => rfl⟩⟩
end
