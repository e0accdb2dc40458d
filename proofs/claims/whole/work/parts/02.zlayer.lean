/-! THE LAYER Z: the machine's frames over an abstract memory of whole numbers -/
abbrev AV : Type := Int ⊕ (Int ⊕ Nat)
abbrev vi (a : Int) : AV := .inl a
abbrev vl (a : Int) : AV := .inr (.inl a)
abbrev vr (n : Nat) : AV := .inr (.inr n)
abbrev Mem : Type := Nat → Int → Int
def up (σ : Mem) (c : Nat) (k v : Int) : Mem := fun c' k' => if c' = c ∧ k' = k then v else σ c' k'
theorem up_same (σ : Mem) (c : Nat) (k v : Int) : up σ c k v c k = v := by simp [up]
theorem up_ne {σ : Mem} {c c' : Nat} {k k' v : Int} (h : c' ≠ c ∨ k' ≠ k) : up σ c k v c' k' = σ c' k' := by
  simp only [up]; rw [if_neg]; rintro ⟨h1, h2⟩; rcases h with h | h <;> contradiction
theorem up_nc {σ : Mem} {c c' : Nat} {k k' v : Int} (h : c' ≠ c) : up σ c k v c' k' = σ c' k' := up_ne (Or.inl h)
theorem up_nk {σ : Mem} {c c' : Nat} {k k' v : Int} (h : k' ≠ k) : up σ c k v c' k' = σ c' k' := up_ne (Or.inr h)
/-- the launch, the classes, addresses of the cells, classes of the arrays, their types, what may change -/
abbrev EN : Type := Launch × va_G × (Nat → Nat) × (Nat → ClassId) × List (ClassId × FieldType) × (Nat → Prop)
abbrev eL (E : EN) : Launch := E.1
abbrev eD (E : EN) : va_G := E.2.1
abbrev ead (E : EN) : Nat → Nat := E.2.2.1
abbrev eaC (E : EN) : Nat → ClassId := E.2.2.2.1
abbrev ety (E : EN) : List (ClassId × FieldType) := E.2.2.2.2.1
abbrev eA (E : EN) : Nat → Prop := E.2.2.2.2.2
def cv (E : EN) : AV → Value
  | .inl a => .int (Int32.ofInt a)
  | .inr (.inl a) => .long (Int64.ofInt a)
  | .inr (.inr n) => .ref (ead E n)
/-- ints wrap around -/
def w32 (x : Int) : Int := (x + 2147483648) % 4294967296 - 2147483648
def w64 (x : Int) : Int := (x + 9223372036854775808) % 18446744073709551616 - 9223372036854775808
def i32 (a : Int) : Prop := -2147483648 ≤ a ∧ a < 2147483648
def i64 (a : Int) : Prop := -9223372036854775808 ≤ a ∧ a < 9223372036854775808
theorem w32_toInt (x : Int) : (Int32.ofInt x).toInt = w32 x := by
  rw [Int32.toInt_ofInt]; simp only [Int.bmod, w32, Int32.size]; split <;> omega
theorem w64_toInt (x : Int) : (Int64.ofInt x).toInt = w64 x := by
  rw [Int64.toInt_ofInt]; simp only [Int.bmod, w64, Int64.size]; split <;> omega
theorem w32_id {x : Int} (h : i32 x) : w32 x = x := by simp only [w32, i32] at *; omega
theorem w64_id {x : Int} (h : i64 x) : w64 x = x := by simp only [w64, i64] at *; omega
theorem w32_ok (x : Int) : i32 (w32 x) := by simp only [w32, i32]; omega
theorem w64_ok (x : Int) : i64 (w64 x) := by simp only [w64, i64]; omega
theorem of32 {x : Int} (h : i32 x) : (Int32.ofInt x).toInt = x := by rw [w32_toInt, w32_id h]
theorem of64 {x : Int} (h : i64 x) : (Int64.ofInt x).toInt = x := by rw [w64_toInt, w64_id h]
theorem ok32 (x : Int32) : i32 x.toInt := ⟨Int32.le_toInt x, Int32.toInt_lt x⟩
theorem ok64 (x : Int64) : i64 x.toInt := ⟨Int64.le_toInt x, Int64.toInt_lt x⟩
theorem eq32 {x y : Int32} (h : x.toInt = y.toInt) : x = y := Int32.toInt_inj.mp h
theorem eq64 {x y : Int64} (h : x.toInt = y.toInt) : x = y := Int64.toInt_inj.mp h
theorem ofw32 (x : Int) : Int32.ofInt (w32 x) = Int32.ofInt x := by apply eq32; rw [w32_toInt, w32_toInt, w32_id (w32_ok x)]
theorem ofw64 (x : Int) : Int64.ofInt (w64 x) = Int64.ofInt x := by apply eq64; rw [w64_toInt, w64_toInt, w64_id (w64_ok x)]
theorem oft32 (x : Int32) : Int32.ofInt x.toInt = x := Int32.ofInt_toInt x
theorem oft64 (x : Int64) : Int64.ofInt x.toInt = x := Int64.ofInt_toInt x
/-- bits -/
def ish (a b : Int) : Int := (Int32.ofInt a <<< (Int32.ofInt b &&& 31)).toInt
def isr (a b : Int) : Int := (Int32.ofInt a >>> (Int32.ofInt b &&& 31)).toInt
def ius (a b : Int) : Int := ((Int32.ofInt a).toUInt32 >>> ((Int32.ofInt b).toUInt32 &&& Int32.toUInt32 31)).toInt32.toInt
def ian (a b : Int) : Int := (Int32.ofInt a &&& Int32.ofInt b).toInt
def ior (a b : Int) : Int := (Int32.ofInt a ||| Int32.ofInt b).toInt
def ixo (a b : Int) : Int := (Int32.ofInt a ^^^ Int32.ofInt b).toInt
def lan (a b : Int) : Int := (Int64.ofInt a &&& Int64.ofInt b).toInt
def lor (a b : Int) : Int := (Int64.ofInt a ||| Int64.ofInt b).toInt
def lsh (a b : Int) : Int := (Int64.ofInt a <<< ((Int32.ofInt b).toInt64 &&& 63)).toInt
def lsr (a b : Int) : Int := (Int64.ofInt a >>> ((Int32.ofInt b).toInt64 &&& 63)).toInt
def w8 (x : Int) : Int := (x + 128) % 256 - 128
def w16 (x : Int) : Int := (x + 32768) % 65536 - 32768
def u16 (x : Int) : Int := x % 65536
def lcm (a b : Int) : Int := if a < b then -1 else if a = b then 0 else 1
/-- numbers fit their types -/
def ok1 : AV → Prop
  | .inl a => i32 a
  | .inr (.inl a) => i64 a
  | .inr (.inr _) => True
def oks : List AV → Prop
  | [] => True
  | v :: st => ok1 v ∧ oks st
def oko : Option AV → Prop
  | none => True
  | some v => ok1 v
def okl : List (Option AV) → Prop
  | [] => True
  | v :: st => oko v ∧ okl st
theorem okl_at : ∀ {L : List (Option AV)} {i : Nat} {v : AV}, okl L → L[i]? = some (some v) → ok1 v
  | [], i, v, _, h => by simp at h
  | o :: L, 0, v, h, e => by simp at e; subst e; exact h.1
  | o :: L, i + 1, v, h, e => okl_at (L := L) h.2 (by simpa using e)
theorem okl_set : ∀ {L : List (Option AV)} (i : Nat) {o : Option AV}, okl L → oko o → okl (L.set i o)
  | [], i, o, h, _ => by simp [okl]
  | x :: L, 0, o, h, ho => ⟨ho, h.2⟩
  | x :: L, i + 1, o, h, ho => ⟨h.1, okl_set i h.2 ho⟩
def rg (t : Nat) (v : Int) : Prop := if t = 1 then i64 v else if t = 3 then v = 0 ∨ v = 1 else if t = 4 then -128 ≤ v ∧ v ≤ 127 else i32 v
def tyr (c : Nat) (i : Int) : Nat := if (sh c).1 < 20 then fg (sh c).1 i else if (sh c).1 = 23 then 1 else if (sh c).1 = 22 then 3 else if (sh c).1 = 21 then 4 else 0
def Rng (σ : Mem) : Prop := ∀ (c : Nat) (i : Int), rg (tyr c i) (σ c i)
theorem Rng.up {σ : Mem} (h : Rng σ) {c : Nat} {k v : Int} (hv : rg (tyr c k) v) : Rng (up σ c k v) := by
  intro c' k'
  unfold Jvm.Pilot.@@N@@.up
  split
  · rename_i e; rw [e.1, e.2]; exact hv
  · exact h c' k'
/-- the cells -/
def fv (E : EN) (σ : Mem) (c ci : Nat) (j : Nat) : Value := if fg ci (j : Int) = 1 then .long (Int64.ofInt (σ c j)) else if fg ci (j : Int) = 2 then .ref (ead E (rf c j)) else .int (Int32.ofInt (σ c j))
def ce (E : EN) (σ : Mem) (c : Nat) : va_E :=
  if (sh c).1 < 20 then .inr ((sh c).1, (List.range (sh c).2).map (fv E σ c (sh c).1))
  else if (sh c).1 < 23 then .inl (eaC E c, (sh c).2, .inl (fun j => Int32.ofInt (σ c (j : Nat))))
  else if (sh c).1 = 23 then .inl (eaC E c, (sh c).2, .inr (.inl (fun j => Int64.ofInt (σ c (j : Nat)))))
  else .inl (eaC E c, (sh c).2, .inr (.inr (.inr (.inr (fun j => some (ead E (rf c (j : Nat))))))))
def wsv (E : EN) (σ : Mem) : va_W := (List.range nC).map (fun c => (ead E c, ce E σ c))
theorem wsv_at {E : EN} {σ : Mem} {c : Nat} (hc : c < nC) : (wsv E σ)[c]? = some (ead E c, ce E σ c) := by simp [wsv, hc]
theorem sh_lt {c k n : Nat} (h : sh c = (k, n)) (hk : k ≠ 99) : c < nC := by
  rcases Nat.lt_or_ge c nC with h1 | h1
  · exact h1
  · exfalso; apply hk
    have hl : shL.length = nC := by decide +kernel
    have h2 : sh c = (99, 0) := by
      unfold sh
      rw [List.getD_eq_getElem?_getD, List.getElem?_eq_none (by omega)]
      rfl
    rw [h2] at h; exact (Prod.mk.inj h).1.symm
theorem ce_congr {E : EN} {σ τ : Mem} {c : Nat} (h : ∀ k : Int, τ c k = σ c k) : ce E τ c = ce E σ c := by
  have e : τ c = σ c := funext h
  unfold ce fv
  rw [e]
theorem ce_up_ne {E : EN} {σ : Mem} {c c' : Nat} {k v : Int} (h : c' ≠ c) : ce E (up σ c k v) c' = ce E σ c' := ce_congr (fun _ => up_nc h)
theorem wsv_set {E : EN} {σ τ : Mem} {c : Nat} {X : va_E} (hc : c < nC) (h1 : ce E τ c = X) (h2 : ∀ c', c' ≠ c → ce E τ c' = ce E σ c') : (wsv E σ).set c (ead E c, X) = wsv E τ := by
  apply List.ext_getElem?
  intro i
  rw [List.getElem?_set]
  by_cases hi : c = i
  · subst hi
    rw [if_pos rfl, if_pos (by simpa [wsv] using hc), wsv_at hc, h1]
  · rw [if_neg hi]
    by_cases hn : i < nC
    · rw [wsv_at hn, wsv_at hn, h2 i (fun q => hi q.symm)]
    · rw [List.getElem?_eq_none (by simp [wsv]; omega), List.getElem?_eq_none (by simp [wsv]; omega)]
def AD (E : EN) : Prop := (∀ i j, i < nC → j < nC → ead E i = ead E j → i = j) ∧ ∀ c, c < nC → eA E (ead E c)
theorem AD.vd {E : EN} (h : AD E) (σ : Mem) : va_D (eA E) (wsv E σ) := by
  refine ⟨fun i j p q hi hj e => ?_, fun k q hk => ?_⟩
  · have hin : i < nC := by have := (List.getElem?_eq_some_iff.mp hi).1; simpa [wsv] using this
    have hjn : j < nC := by have := (List.getElem?_eq_some_iff.mp hj).1; simpa [wsv] using this
    rw [wsv_at hin] at hi; rw [wsv_at hjn] at hj
    cases hi; cases hj
    exact h.1 i j hin hjn e
  · have hin : k < nC := by have := (List.getElem?_eq_some_iff.mp hk).1; simpa [wsv] using this
    rw [wsv_at hin] at hk; cases hk
    exact h.2 k hin
/-- the String constants -/
def nS : Nat := 21
def stO : List (String × Nat × String) := [("BlackCabinet$Reader", 102, "noon"), ("BlackCabinet$Reader", 108, "hand"), ("BlackCabinet$Reader", 110, "court"), ("BlackCabinet$Reader", 112, "letter"), ("BlackCabinet$Reader", 114, "opens"), ("BlackCabinet$Reader", 116, "copies"), ("BlackCabinet$Reader", 118, "mends"), ("BlackCabinet$Reader", 120, "shows"), ("BlackCabinet$Reader", 122, "prior"), ("BlackCabinet$Reader", 124, "name"), ("BlackCabinet$Reader", 126, "skill"), ("BlackCabinet$Reader", 128, "tongue"), ("BlackCabinet$Reader", 130, "pages"), ("BlackCabinet$Reader", 132, "worth"), ("BlackCabinet$Reader", 134, "seal"), ("BlackCabinet$Reader", 136, "sign"), ("BlackCabinet$Reader", 138, "says"), ("BlackCabinet$Reader", 140, "yes"), ("BlackCabinet$Reader", 142, "no"), ("BlackCabinetModel", 80, " noon hand skill court letter tongue pages worth seal sign says yes no opens copies mends shows prior name "), ("BlackCabinetModel", 118, ";:+-*()")]
def stLen : List Nat := [4, 4, 5, 6, 5, 6, 5, 5, 5, 4, 5, 6, 5, 5, 4, 4, 4, 3, 2, 107, 7]
def stByt : List (List Int32) := [[110, 111, 111, 110], [104, 97, 110, 100], [99, 111, 117, 114, 116], [108, 101, 116, 116, 101, 114], [111, 112, 101, 110, 115], [99, 111, 112, 105, 101, 115], [109, 101, 110, 100, 115], [115, 104, 111, 119, 115], [112, 114, 105, 111, 114], [110, 97, 109, 101], [115, 107, 105, 108, 108], [116, 111, 110, 103, 117, 101], [112, 97, 103, 101, 115], [119, 111, 114, 116, 104], [115, 101, 97, 108], [115, 105, 103, 110], [115, 97, 121, 115], [121, 101, 115], [110, 111], [32, 110, 111, 111, 110, 32, 104, 97, 110, 100, 32, 115, 107, 105, 108, 108, 32, 99, 111, 117, 114, 116, 32, 108, 101, 116, 116, 101, 114, 32, 116, 111, 110, 103, 117, 101, 32, 112, 97, 103, 101, 115, 32, 119, 111, 114, 116, 104, 32, 115, 101, 97, 108, 32, 115, 105, 103, 110, 32, 115, 97, 121, 115, 32, 121, 101, 115, 32, 110, 111, 32, 111, 112, 101, 110, 115, 32, 99, 111, 112, 105, 101, 115, 32, 109, 101, 110, 100, 115, 32, 115, 104, 111, 119, 115, 32, 112, 114, 105, 111, 114, 32, 110, 97, 109, 101, 32], [59, 58, 43, 45, 42, 40, 41]]
/-- tables that hold for every frame: classes, arrays, String constants, COMPACT_STRINGS -/
def KK (E : EN) (U : State) : Prop := va_K (eD E) cls (ety E) U ∧ vk_S nS stLen stByt (fun i => ead E (nC + 2 * i)) (fun i => ead E (nC + 2 * i + 1)) (eA E) U U.heap ∧ va_Z "java/lang/String" "COMPACT_STRINGS" "Z" (.int 1) (eA E) U U.heap ∧ ((∀ (i : Nat) (q : String × Nat × String), stO[i]? = some q → vk_R q.1 q.2.1 q.2.2 (ead E (nC + 2 * i)) U) ∧ ∃ v : Value, v.category = 1 ∧ va_Z "jdk/internal/util/Preconditions" "SIOOBE_FORMATTER" "Ljava/util/function/BiFunction;" v (eA E) U U.heap) ∧ (∀ (c k n : Nat), sh c = (k, n) → 20 ≤ k → k ≠ 99 → ∃ t0 : Nat, (ety E)[t0]? = some (eaC E c, if k = 20 then .int else if k = 21 then .byte else if k = 22 then .boolean else if k = 23 then .long else .object (cls.getD (k - 30) (RZ0, TZ0, 0)).1))
theorem KK.warm {E : EN} {s U : State} (h : KK E s) (hW : s.WarmedH U.vm) (hF : ∀ a : Nat, a < s.heap.size → ¬ eA E a → U.heap[a]? = s.heap[a]?) : KK E U :=
  ⟨h.1.moved hW.alike, (h.2.1.moved hW.alike).kept hF, (h.2.2.1.moved hW.alike).kept hF, ⟨fun i q hi => (h.2.2.2.1.1 i q hi).warm hW, by obtain ⟨v, h1, h2⟩ := h.2.2.2.1.2; exact ⟨v, h1, (h2.moved hW.alike).kept hF⟩⟩, h.2.2.2.2⟩
theorem KK.calling {E : EN} {U : State} (h : KK E U) (g : JFrame) (mk : MethodId) (a : Array Value) : KK E (U.calling g mk a) :=
  ⟨h.1.moved (u := U) (U := U.calling g mk a) (Vm.Alike.refl U.vm), (h.2.1.moved (u := U) (U := U.calling g mk a) (Vm.Alike.refl U.vm)).kept (fun _ _ _ => rfl), (h.2.2.1.moved (u := U) (U := U.calling g mk a) (Vm.Alike.refl U.vm)).kept (fun _ _ _ => rfl), ⟨fun i q hi => vk_R.same (u := U) rfl (h.2.2.2.1.1 i q hi), by obtain ⟨v, h1, h2⟩ := h.2.2.2.1.2; exact ⟨v, h1, (h2.moved (u := U) (U := U.calling g mk a) (Vm.Alike.refl U.vm)).kept (fun _ _ _ => rfl)⟩⟩, h.2.2.2.2⟩
/-- locals: by places; none: nothing is said -/
def lvR (E : EN) (ls : Array Slot) (L : List (Option AV)) : Prop := ls.size = L.length ∧ lv_wf ls ∧ ∀ (i : Nat) (v : AV), L[i]? = some (some v) → ls[i]? = some (.val (cv E v))
def laL (E : EN) : Nat → List (Option AV) → List (Nat × Value)
  | _, [] => []
  | i, none :: L => laL E (i + 1) L
  | i, some v :: L => (i, cv E v) :: laL E (i + 1) L
theorem laL_mem {E : EN} : ∀ {L : List (Option AV)} {i j : Nat} {w : Value}, (j, w) ∈ laL E i L ↔ ∃ (k : Nat) (v : AV), j = i + k ∧ L[k]? = some (some v) ∧ w = cv E v
  | [], i, j, w => by simp [laL]
  | none :: L, i, j, w => by
    simp only [laL]
    rw [laL_mem]
    constructor
    · rintro ⟨k, v, h1, h2, h3⟩; exact ⟨k + 1, v, by omega, by simpa using h2, h3⟩
    · rintro ⟨k, v, h1, h2, h3⟩
      cases k with
      | zero => simp at h2
      | succ k => exact ⟨k, v, by omega, by simpa using h2, h3⟩
  | some u :: L, i, j, w => by
    simp only [laL, List.mem_cons]
    rw [laL_mem]
    constructor
    · rintro (h | ⟨k, v, h1, h2, h3⟩)
      · cases h; exact ⟨0, u, rfl, rfl, rfl⟩
      · exact ⟨k + 1, v, by omega, by simpa using h2, h3⟩
    · rintro ⟨k, v, h1, h2, h3⟩
      cases k with
      | zero => left; simp at h2; subst h2; subst h3; subst h1; rfl
      | succ k => right; exact ⟨k, v, by omega, by simpa using h2, h3⟩
theorem lvR.has {E : EN} {ls : Array Slot} {L : List (Option AV)} (h : lvR E ls L) : lv_has ls L.length (laL E 0 L) := by
  refine ⟨h.1, h.2.1, fun q hq => ?_⟩
  obtain ⟨k, v, h1, h2, h3⟩ := laL_mem.mp (show (q.1, q.2) ∈ laL E 0 L from hq)
  rw [h1, h3, Nat.zero_add]
  exact h.2.2 k v h2
def kl (L : List (Option AV)) (i : Nat) : List (Option AV) := match i with
  | 0 => L
  | j + 1 => match L[j]? with
    | some (some (.inr (.inl _))) => L.set j none
    | _ => L
def st1 (L : List (Option AV)) (i : Nat) (v : AV) : List (Option AV) := (kl L i).set i (some v)
def st2 (L : List (Option AV)) (i : Nat) (v : AV) : List (Option AV) := ((kl L i).set (i + 1) none).set i (some v)
theorem kl_len (L : List (Option AV)) (i : Nat) : (kl L i).length = L.length := by
  unfold kl; split
  · rfl
  · split <;> simp
theorem kl_ok {L : List (Option AV)} (i : Nat) (h : okl L) : okl (kl L i) := by
  unfold kl; split
  · exact h
  · split
    · exact okl_set _ h trivial
    · exact h
theorem kl_at {L : List (Option AV)} {i k : Nat} {v : AV} (h : (kl L i)[k]? = some (some v)) : L[k]? = some (some v) ∧ ¬ (k + 1 = i ∧ ∃ a, v = vl a) := by
  unfold kl at h
  split at h
  · exact ⟨h, fun q => by omega⟩
  · rename_i j
    split at h
    · rename_i a e
      rw [List.getElem?_set] at h
      split at h
      · split at h <;> simp at h
      · rename_i hne
        exact ⟨h, fun q => hne (by omega)⟩
    · rename_i hn
      refine ⟨h, fun q => ?_⟩
      obtain ⟨q1, a, rfl⟩ := q
      have : k = j := by omega
      subst this
      exact hn a h
theorem cv_cat2 {E : EN} {v : AV} : (cv E v).category = 2 ↔ ∃ a, v = vl a := by
  rcases v with a | a | a <;> simp [cv, Value.category]
theorem lvR.of1 {E : EN} {ls' : Array Slot} {L : List (Option AV)} {i : Nat} {v : AV} (hi : i < L.length) (h : lv_has ls' L.length ((i, cv E v) :: (laL E 0 L).filter (fun q => !(q.1 == i) && !(q.1 + 1 == i && q.2.category == 2)))) : lvR E ls' (st1 L i v) := by
  refine ⟨by rw [h.1]; simp [st1, kl_len], h.2.1, fun k w hk => ?_⟩
  unfold st1 at hk
  rw [List.getElem?_set] at hk
  by_cases e : i = k
  · subst e
    rw [if_pos rfl] at hk
    split at hk
    · cases hk; exact h.2.2 _ List.mem_cons_self
    · cases hk
  · rw [if_neg e] at hk
    obtain ⟨h1, h2⟩ := kl_at hk
    refine h.2.2 (k, cv E w) (List.mem_cons_of_mem _ (List.mem_filter.mpr ⟨laL_mem.mpr ⟨k, w, by omega, h1, rfl⟩, ?_⟩))
    simp only [Bool.and_eq_true, Bool.not_eq_true', beq_eq_false_iff_ne, ne_eq, Bool.and_eq_false_iff]
    refine ⟨fun q => e q.symm, ?_⟩
    by_cases q : k + 1 = i
    · right; intro q2; exact h2 ⟨q, cv_cat2.mp q2⟩
    · left; exact q
theorem lvR.of2 {E : EN} {ls' : Array Slot} {L : List (Option AV)} {i : Nat} {v : AV} (hi : i + 1 < L.length) (h : lv_has ls' L.length ((i, cv E v) :: (laL E 0 L).filter (fun q => !(q.1 == i) && (!(q.1 == i + 1) && !(q.1 + 1 == i && q.2.category == 2))))) : lvR E ls' (st2 L i v) := by
  refine ⟨by rw [h.1]; simp [st2, kl_len], h.2.1, fun k w hk => ?_⟩
  unfold st2 at hk
  rw [List.getElem?_set] at hk
  by_cases e : i = k
  · subst e
    rw [if_pos rfl] at hk
    split at hk
    · cases hk; exact h.2.2 _ List.mem_cons_self
    · cases hk
  · rw [if_neg e, List.getElem?_set] at hk
    by_cases e2 : i + 1 = k
    · rw [if_pos e2] at hk
      split at hk <;> simp at hk
    · rw [if_neg e2] at hk
      obtain ⟨h1, h2⟩ := kl_at hk
      refine h.2.2 (k, cv E w) (List.mem_cons_of_mem _ (List.mem_filter.mpr ⟨laL_mem.mpr ⟨k, w, by omega, h1, rfl⟩, ?_⟩))
      simp only [Bool.and_eq_true, Bool.not_eq_true', beq_eq_false_iff_ne, ne_eq, Bool.and_eq_false_iff]
      refine ⟨fun q => e q.symm, fun q => e2 q.symm, ?_⟩
      by_cases q : k + 1 = i
      · right; intro q2; exact h2 ⟨q, cv_cat2.mp q2⟩
      · left; exact q
def enL : List AV → List (Option AV)
  | [] => []
  | .inr (.inl a) :: r => some (vl a) :: none :: enL r
  | .inl a :: r => some (vi a) :: enL r
  | .inr (.inr a) :: r => some (vr a) :: enL r
theorem enL_mem {E : EN} : ∀ (vs : List AV) (i k : Nat) (v : AV), (enL vs)[k]? = some (some v) → (i + k, cv E v) ∈ lv_args i (vs.map (cv E))
  | [], i, k, v, h => by simp [enL] at h
  | .inl a :: r, i, 0, v, h => by simp [enL] at h; subst h; simp [lv_args, cv]
  | .inl a :: r, i, k + 1, v, h => by
    have h2 := enL_mem (E := E) r (i + 1) k v (by simpa [enL] using h)
    simp only [List.map_cons, lv_args, cv, Value.category]
    refine List.mem_cons_of_mem _ ?_
    rw [show i + (k + 1) = i + 1 + k by omega]
    exact h2
  | .inr (.inr a) :: r, i, 0, v, h => by simp [enL] at h; subst h; simp [lv_args, cv]
  | .inr (.inr a) :: r, i, k + 1, v, h => by
    have h2 := enL_mem (E := E) r (i + 1) k v (by simpa [enL] using h)
    simp only [List.map_cons, lv_args, cv, Value.category]
    refine List.mem_cons_of_mem _ ?_
    rw [show i + (k + 1) = i + 1 + k by omega]
    exact h2
  | .inr (.inl a) :: r, i, 0, v, h => by simp [enL] at h; subst h; simp [lv_args, cv]
  | .inr (.inl a) :: r, i, 1, v, h => by simp [enL] at h
  | .inr (.inl a) :: r, i, k + 2, v, h => by
    have h2 := enL_mem (E := E) r (i + 2) k v (by simpa [enL] using h)
    simp only [List.map_cons, lv_args, cv, Value.category]
    refine List.mem_cons_of_mem _ ?_
    rw [show i + (k + 2) = i + 2 + k by omega]
    exact h2
theorem lg_cons (v : Value) (vs : List Value) : lg_sl (v :: vs) = (if v.category = 2 then [.val v, .second] else [.val v]) ++ lg_sl vs := by unfold lg_sl; rw [List.flatMap_cons]
theorem enL_len {E : EN} : ∀ (vs : List AV), (lg_sl (vs.map (cv E))).length = (enL vs).length
  | [] => rfl
  | .inl a :: r => by rw [List.map_cons, lg_cons, List.length_append, enL_len r]; simp [enL, cv, Value.category]; omega
  | .inr (.inr a) :: r => by rw [List.map_cons, lg_cons, List.length_append, enL_len r]; simp [enL, cv, Value.category]; omega
  | .inr (.inl a) :: r => by rw [List.map_cons, lg_cons, List.length_append, enL_len r]; simp [enL, cv, Value.category]; omega
theorem enL_ok : ∀ {vs : List AV}, oks vs → okl (enL vs)
  | [], _ => trivial
  | .inl a :: r, h => ⟨h.1, enL_ok h.2⟩
  | .inr (.inr a) :: r, h => ⟨h.1, enL_ok h.2⟩
  | .inr (.inl a) :: r, h => ⟨h.1, trivial, enL_ok h.2⟩
def pad (n : Nat) (L : List (Option AV)) : List (Option AV) := L ++ List.replicate (n - L.length) none
theorem okl_app : ∀ {L M : List (Option AV)}, okl L → okl M → okl (L ++ M)
  | [], _, _, h => h
  | _ :: _, _, h1, h2 => ⟨h1.1, okl_app h1.2 h2⟩
theorem okl_rep : ∀ n : Nat, okl (List.replicate n none)
  | 0 => trivial
  | n + 1 => ⟨trivial, okl_rep n⟩
