/-! what to believe -/
def fcF (T : Int → Int) (w k : Int) : Int := if T (73 + k) = 1 then (if w = 1 then T (33 + T (37 + k)) else 100 - T (33 + T (37 + k))) else (if w = 1 then 100 - T (33 + T (37 + k)) else T (33 + T (37 + k)))
/-- how likely what a set says is, together with war (w = 1) or none -/
def chS (T : Int → Int) (s w : Int) : Nat → Int
  | 0 => if w = 1 then T 5 else 100 - T 5
  | n + 1 => if bt s n = 0 ∨ T (73 + (n : Int)) = 0 then chS T s w n else chS T s w n * fcF T w n
theorem fcF_b {T : Int → Int} (hT : MT T) {w k : Int} (hk : 0 ≤ k ∧ k < T 4) : 0 ≤ fcF T w k ∧ fcF T w k ≤ 100 := by
  have h1 := (hT.2.2.2.2.2.2.2.2.2.1 k hk.1 hk.2).1
  have h2 := hT.2.2.2.2.2.2.2.2.1 (T (37 + k)) h1.1 h1.2
  unfold fcF
  (repeat' split) <;> omega
theorem chS_b {T : Int → Int} (hT : MT T) {s w : Int} : ∀ n : Nat, (n : Int) ≤ T 4 → 0 ≤ chS T s w n ∧ chS T s w n ≤ 100 ^ (n + 1)
  | 0, _ => by
    have := hT.2.2.2.2.1
    simp only [chS]; split <;> simp <;> omega
  | n + 1, hn => by
    have ih := chS_b hT (s := s) (w := w) n (by omega)
    have fb := fcF_b hT (w := w) (k := n) (by omega)
    have e : (100 : Int) ^ (n + 1 + 1) = 100 ^ (n + 1) * 100 := Int.pow_succ ..
    simp only [chS]; split
    · rw [e]; omega
    · refine ⟨Int.mul_nonneg ih.1 fb.1, ?_⟩
      rw [e]
      exact Int.mul_le_mul ih.2 fb.2 fb.1 (by omega)
theorem chS_c {T : Int → Int} (hT : MT T) {s w : Int} {n : Nat} (hn : (n : Int) ≤ T 4) : 0 ≤ chS T s w n ∧ chS T s w n ≤ 100000000000000 := by
  have b := chS_b hT (s := s) (w := w) n hn
  have t4 := hT.2.2.2.1
  rcases (show n = 0 ∨ n = 1 ∨ n = 2 ∨ n = 3 ∨ n = 4 ∨ n = 5 ∨ n = 6 by omega) with rfl | rfl | rfl | rfl | rfl | rfl | rfl <;> (simp at b; omega)
theorem wid2 {x y : Int} (h1 : 0 ≤ x ∧ x ≤ 100000000000000) (h2 : 0 ≤ y ∧ y ≤ 100) : w64 (x * y) = x * y := by
  have a : 0 ≤ x * y := Int.mul_nonneg h1.1 h2.1
  have b : x * y ≤ 100000000000000 * 100 := Int.mul_le_mul h1.2 h2.2 h2.1 (by omega)
  exact wid64 (by omega) (by omega)
