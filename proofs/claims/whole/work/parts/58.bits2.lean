/-! how many bits a number has: Integer.bitCount -/
def uN (x : Int) : Nat := (x % 4294967296).toNat
theorem uN_lt (x : Int) : uN x < 4294967296 := by unfold uN; omega
theorem uN_of (y : Int32) : uN y.toInt = y.toBitVec.toNat := by
  have h1 : y.toInt = y.toBitVec.toInt := rfl
  have h2 := y.toBitVec.isLt
  unfold uN
  rw [h1, BitVec.toInt_eq_toNat_cond]
  split <;> omega
theorem uN_in (x : Int) : (Int32.ofInt x).toBitVec.toNat = uN x := by
  rw [← uN_of, w32_toInt]; unfold uN w32; omega
theorem uN_an (x y : Int) : uN (ian x y) = uN x &&& uN y := by
  unfold ian
  rw [uN_of, ← uN_in x, ← uN_in y]
  exact BitVec.toNat_and ..
theorem uN_us (x s : Int) (k : Nat) (hs : (((Int32.ofInt s).toUInt32 &&& Int32.toUInt32 31).toBitVec % 32).toNat = k) : uN (ius x s) = uN x / 2 ^ k := by
  unfold ius
  rw [uN_of, pk_ushr _ _ k hs, uN_in]
theorem uN_ad {x y : Int} (h : uN x + uN y < 4294967296) : uN (w32 (x + y)) = uN x + uN y := by unfold uN w32 at *; omega
theorem uN_sb {x y : Int} (h : uN y ≤ uN x) : uN (w32 (x - y)) = uN x - uN y := by unfold uN w32 at *; omega
theorem uN_eq {x : Int} (h : i32 x) {n : Nat} (hn : n < 1000) (e : uN x = n) : x = n := by unfold uN i32 at *; omega
theorem andS (m : Nat) {q r M k : Nat} (hr : r < 2 ^ m) (hk : k < 2 ^ m) : (2 ^ m * q + r) &&& (2 ^ m * M + k) = 2 ^ m * (q &&& M) + (r &&& k) := by
  have h : r &&& k < 2 ^ m := Nat.lt_of_le_of_lt Nat.and_le_left hr
  refine Nat.eq_of_testBit_eq fun j => ?_
  rw [Nat.testBit_and, Nat.testBit_two_pow_mul_add _ hr, Nat.testBit_two_pow_mul_add _ hk, Nat.testBit_two_pow_mul_add _ h]
  split <;> simp [Nat.testBit_and]
theorem and16 {q r M k : Nat} (hr : r < 16) (hk : k < 16) : (16 * q + r) &&& (16 * M + k) = 16 * (q &&& M) + (r &&& k) := andS 4 hr hk
def nval : List Nat → Nat
  | [] => 0
  | a :: l => 16 * nval l + a
theorem andv : ∀ (l m : List Nat), l.length = m.length → (∀ a ∈ l, a < 16) → (∀ a ∈ m, a < 16) → nval l &&& nval m = nval (List.zipWith (· &&& ·) l m)
  | [], [], _, _, _ => rfl
  | [], _ :: _, h, _, _ => absurd h (by simp)
  | _ :: _, [], h, _, _ => absurd h (by simp)
  | a :: l, b :: m, h, ha, hb => by
    simp only [nval, List.zipWith_cons_cons]
    rw [and16 (ha a List.mem_cons_self) (hb b List.mem_cons_self), andv l m (by simpa using h) (fun x hx => ha x (List.mem_cons_of_mem _ hx)) (fun x hx => hb x (List.mem_cons_of_mem _ hx))]
def n1F (r : Nat) : Nat := r - ((r / 2) &&& 5)
def n2F (r : Nat) : Nat := (r &&& 3) + ((r / 4) &&& 3)
theorem n1_1 : ∀ (e : Fin 2) (r : Fin 16), ((8 * e.val + r.val / 2) &&& 5) = ((r.val / 2) &&& 5) ∧ ((r.val / 2) &&& 5) ≤ r.val ∧ n1F r.val < 16 := by decide
theorem n2_1 : ∀ (e : Fin 4) (r : Fin 16), ((4 * e.val + r.val / 4) &&& 3) = ((r.val / 4) &&& 3) := by decide
theorem pc4_1 : ∀ r : Fin 16, n2F (n1F r.val) = r.val % 2 + r.val / 2 % 2 + r.val / 4 % 2 + r.val / 8 % 2 := by decide
def mF (c : Nat) : Nat → Nat
  | 0 => 0
  | n + 1 => 16 * mF c n + c
theorem x1v : ∀ (l : List Nat), (∀ a ∈ l, a < 16) → (nval l / 2 &&& mF 5 l.length) ≤ nval l ∧ nval l - (nval l / 2 &&& mF 5 l.length) = nval (l.map n1F)
  | [], _ => by simp [nval, mF]
  | a :: l, h => by
    have ih := x1v l (fun x hx => h x (List.mem_cons_of_mem _ hx))
    have ha := h a List.mem_cons_self
    have f := n1_1 ⟨nval l % 2, by omega⟩ ⟨a, ha⟩
    simp only at f
    simp only [nval, List.length_cons, mF, List.map_cons]
    have e : (16 * nval l + a) / 2 = 16 * (nval l / 2) + (8 * (nval l % 2) + a / 2) := by omega
    rw [e, and16 (by omega) (by omega), f.1]
    have n1 : n1F a = a - ((a / 2) &&& 5) := rfl
    rw [n1]
    omega
theorem x2v : ∀ (l : List Nat), (∀ a ∈ l, a < 16) → (nval l &&& mF 3 l.length) + (nval l / 4 &&& mF 3 l.length) = nval (l.map n2F)
  | [], _ => by simp [nval, mF]
  | a :: l, h => by
    have ih := x2v l (fun x hx => h x (List.mem_cons_of_mem _ hx))
    have ha := h a List.mem_cons_self
    have f := n2_1 ⟨nval l % 4, by omega⟩ ⟨a, ha⟩
    simp only at f
    simp only [nval, List.length_cons, mF, List.map_cons]
    have e : (16 * nval l + a) / 4 = 16 * (nval l / 4) + (4 * (nval l % 4) + a / 4) := by omega
    rw [e, and16 ha (by omega), and16 (by omega) (by omega), f]
    have n2 : n2F a = (a &&& 3) + ((a / 4) &&& 3) := rfl
    rw [n2]
    omega
def pcS (a : Int) : Nat → Int
  | 0 => 0
  | n + 1 => pcS a n + bt a n
def pc4 (r : Nat) : Nat := r % 2 + r / 2 % 2 + r / 4 % 2 + r / 8 % 2
theorem and15 : ∀ e : Fin 16, (e.val &&& 15) = e.val := by decide
theorem bt_u {a : Int} (k : Nat) (h : k < 32) : bt a k = ((uN a / 2 ^ k % 2 : Nat) : Int) := by
  unfold bt uN
  rcases (show k = 0 ∨ k = 1 ∨ k = 2 ∨ k = 3 ∨ k = 4 ∨ k = 5 ∨ k = 6 ∨ k = 7 ∨ k = 8 ∨ k = 9 ∨ k = 10 ∨ k = 11 ∨ k = 12 ∨ k = 13 ∨ k = 14 ∨ k = 15 ∨ k = 16 ∨ k = 17 ∨ k = 18 ∨ k = 19 ∨ k = 20 ∨ k = 21 ∨ k = 22 ∨ k = 23 ∨ k = 24 ∨ k = 25 ∨ k = 26 ∨ k = 27 ∨ k = 28 ∨ k = 29 ∨ k = 30 ∨ k = 31 by omega) with rfl | rfl | rfl | rfl | rfl | rfl | rfl | rfl | rfl | rfl | rfl | rfl | rfl | rfl | rfl | rfl | rfl | rfl | rfl | rfl | rfl | rfl | rfl | rfl | rfl | rfl | rfl | rfl | rfl | rfl | rfl | rfl <;> simp only [Int.toNat_natCast] <;> omega
