/-- the memory behind the two constructors -/
def σ0 : Mem := fun c k => if c = 0 then (if k = 3 then (-1) else 0) else if c = 2 then (if k = 5 then 50 else 0) else if c = 14 then (if k = 5 then 50 else 0) else if c = 26 then (if k = 5 then 50 else 0) else if c = 38 then (if k = 5 then 50 else 0) else if c = 64 then (if k = 8 then (-1) else 0) else if c = 91 then (if k = 2 then (-1) else 0) else if c = 92 then (if k = 5 then 1000 else 0) else if c = 96 then (if k = 5 then 1 else 0) else if c = 102 then (if k = 1 then (-1) else 0) else if c = 104 then (if k = 1 then (-1) else 0) else if c = 106 then (if k = 1 then (-1) else 0) else if c = 108 then (if k = 1 then (-1) else 0) else if c = 115 then (if k = 14 then (-1) else 0) else if c = 116 then (if k = 5 then 50 else 0) else if c = 130 then (if k = 0 then (-1) else if k = 1 then (-1) else if k = 2 then (-1) else if k = 3 then (-1) else 0) else 0
def tmS (i : Nat) : Term := .string (stO.getD i ("", 0, "")).1 (stO.getD i ("", 0, "")).2.1
theorem andL {a b : Cond} {args : Array Value} {s : State} (h : (Cond.and a b).before args s = true) : a.before args s = true := by rw [Cond.before_and, Bool.and_eq_true] at h; exact h.1
theorem andR {a b : Cond} {args : Array Value} {s : State} (h : (Cond.and a b).before args s = true) : b.before args s = true := by rw [Cond.before_and, Bool.and_eq_true] at h; exact h.2
section NRW
variable {args : Array Value} {s : State}
theorem ns1 : ∀ i, i < nS → stLen.getD i 0 < 2 ^ 31 := by decide
theorem ns2 (h : (Jvm.Cond.and given_1 narrow_1).before args s = true) : ∀ i, i < nS → (Cond.exactly (tmS i) "java/lang/String").before args s = true := by
  intro i hi
  match i, hi with
  | 0, _ => exact (andL (andR (andL (andR (andL (andR (andL (andL (andL (andR h))))))))))
  | 1, _ => exact (andR (andL (andL (andL (andR (andR (andL (andL (andL (andR h))))))))))
  | 2, _ => exact (andL (andR (andL (andR (andR (andR (andL (andL (andL (andR h))))))))))
  | 3, _ => exact (andL (andL (andR (andL (andL (andL (andR (andL (andL (andR h))))))))))
  | 4, _ => exact (andR (andL (andL (andL (andR (andL (andR (andL (andL (andR h))))))))))
  | 5, _ => exact (andL (andR (andR (andR (andR (andL (andR (andL (andL (andR h))))))))))
  | 6, _ => exact (andL (andL (andR (andR (andL (andR (andR (andL (andL (andR h))))))))))
  | 7, _ => exact (andL (andR (andL (andR (andR (andR (andR (andL (andL (andR h))))))))))
  | 8, _ => exact (andR (andL (andL (andR (andL (andL (andL (andR (andL (andR h))))))))))
  | 9, _ => exact (andL (andR (andL (andR (andR (andL (andL (andR (andL (andR h))))))))))
  | 10, _ => exact (andL (andR (andL (andR (andL (andR (andL (andR (andL (andR h))))))))))
  | 11, _ => exact (andL (andL (andR (andR (andR (andR (andL (andR (andL (andR h))))))))))
  | 12, _ => exact (andR (andR (andR (andR (andR (andL (andL (andR (andR (andL (andR h)))))))))))
  | 13, _ => exact (andR (andR (andL (andL (andL (andR (andR (andR (andL (andR h))))))))))
  | 14, _ => exact (andL (andL (andL (andR (andR (andR (andR (andR (andL (andR h))))))))))
  | 15, _ => exact (andR (andL (andR (andR (andL (andL (andL (andL (andR (andR h))))))))))
  | 16, _ => exact (andR (andR (andL (andL (andL (andR (andL (andL (andR (andR h))))))))))
  | 17, _ => exact (andL (andR (andL (andR (andR (andR (andL (andL (andR (andR h))))))))))
  | 18, _ => exact (andR (andL (andL (andL (andR (andL (andR (andL (andR (andR h))))))))))
  | 19, _ => exact (andL (andL (andL (andR (andL (andR (andR (andL (andR (andR h))))))))))
  | 20, _ => exact (andR (andR (andL (andL (andL (andR (andR (andR (andR (andR h))))))))))
  | n + 21, q => exact absurd q (by unfold nS; omega)
theorem ns3 (h : (Jvm.Cond.and given_1 narrow_1).before args s = true) : ∀ i, i < nS → (Cond.eq (.field (tmS i) "java/lang/String" "coder" "B") (.int 0)).before args s = true := by
  intro i hi
  match i, hi with
  | 0, _ => exact (andR (andR (andL (andR (andL (andR (andL (andL (andL (andR h))))))))))
  | 1, _ => exact (andL (andR (andL (andL (andR (andR (andL (andL (andL (andR h))))))))))
  | 2, _ => exact (andR (andR (andL (andR (andR (andR (andL (andL (andL (andR h))))))))))
  | 3, _ => exact (andR (andL (andR (andL (andL (andL (andR (andL (andL (andR h))))))))))
  | 4, _ => exact (andL (andR (andL (andL (andR (andL (andR (andL (andL (andR h))))))))))
  | 5, _ => exact (andL (andR (andR (andR (andR (andR (andL (andR (andL (andL (andR h)))))))))))
  | 6, _ => exact (andR (andL (andR (andR (andL (andR (andR (andL (andL (andR h))))))))))
  | 7, _ => exact (andR (andR (andL (andR (andR (andR (andR (andL (andL (andR h))))))))))
  | 8, _ => exact (andL (andR (andL (andR (andL (andL (andL (andR (andL (andR h))))))))))
  | 9, _ => exact (andR (andR (andL (andR (andR (andL (andL (andR (andL (andR h))))))))))
  | 10, _ => exact (andR (andR (andL (andR (andL (andR (andL (andR (andL (andR h))))))))))
  | 11, _ => exact (andR (andL (andR (andR (andR (andR (andL (andR (andL (andR h))))))))))
  | 12, _ => exact (andL (andL (andL (andL (andR (andL (andR (andR (andL (andR h))))))))))
  | 13, _ => exact (andL (andL (andR (andL (andL (andR (andR (andR (andL (andR h))))))))))
  | 14, _ => exact (andR (andL (andL (andR (andR (andR (andR (andR (andL (andR h))))))))))
  | 15, _ => exact (andL (andR (andR (andR (andL (andL (andL (andL (andR (andR h))))))))))
  | 16, _ => exact (andL (andL (andR (andL (andL (andR (andL (andL (andR (andR h))))))))))
  | 17, _ => exact (andR (andR (andL (andR (andR (andR (andL (andL (andR (andR h))))))))))
  | 18, _ => exact (andL (andR (andL (andL (andR (andL (andR (andL (andR (andR h))))))))))
  | 19, _ => exact (andR (andL (andL (andR (andL (andR (andR (andL (andR (andR h))))))))))
  | 20, _ => exact (andL (andL (andR (andL (andL (andR (andR (andR (andR (andR h))))))))))
  | n + 21, q => exact absurd q (by unfold nS; omega)
theorem ns4 (h : (Jvm.Cond.and given_1 narrow_1).before args s = true) : ∀ i, i < nS → (Cond.arrayOf (.field (tmS i) "java/lang/String" "value" "[B") .byte).before args s = true := by
  intro i hi
  match i, hi with
  | 0, _ => exact (andL (andL (andR (andR (andL (andR (andL (andL (andL (andR h))))))))))
  | 1, _ => exact (andR (andR (andL (andL (andR (andR (andL (andL (andL (andR h))))))))))
  | 2, _ => exact (andL (andL (andR (andR (andR (andR (andL (andL (andL (andR h))))))))))
  | 3, _ => exact (andL (andR (andR (andL (andL (andL (andR (andL (andL (andR h))))))))))
  | 4, _ => exact (andR (andR (andL (andL (andR (andL (andR (andL (andL (andR h))))))))))
  | 5, _ => exact (andR (andR (andR (andR (andR (andR (andL (andR (andL (andL (andR h)))))))))))
  | 6, _ => exact (andL (andR (andR (andR (andL (andR (andR (andL (andL (andR h))))))))))
  | 7, _ => exact (andL (andL (andR (andR (andR (andR (andR (andL (andL (andR h))))))))))
  | 8, _ => exact (andR (andR (andL (andR (andL (andL (andL (andR (andL (andR h))))))))))
  | 9, _ => exact (andL (andL (andR (andR (andR (andL (andL (andR (andL (andR h))))))))))
  | 10, _ => exact (andL (andL (andR (andR (andL (andR (andL (andR (andL (andR h))))))))))
  | 11, _ => exact (andL (andR (andR (andR (andR (andR (andL (andR (andL (andR h))))))))))
  | 12, _ => exact (andR (andL (andL (andL (andR (andL (andR (andR (andL (andR h))))))))))
  | 13, _ => exact (andR (andL (andR (andL (andL (andR (andR (andR (andL (andR h))))))))))
  | 14, _ => exact (andL (andR (andL (andR (andR (andR (andR (andR (andL (andR h))))))))))
  | 15, _ => exact (andR (andR (andR (andR (andL (andL (andL (andL (andR (andR h))))))))))
  | 16, _ => exact (andR (andL (andR (andL (andL (andR (andL (andL (andR (andR h))))))))))
  | 17, _ => exact (andL (andL (andR (andR (andR (andR (andL (andL (andR (andR h))))))))))
  | 18, _ => exact (andR (andR (andL (andL (andR (andL (andR (andL (andR (andR h))))))))))
  | 19, _ => exact (andL (andR (andL (andR (andL (andR (andR (andL (andR (andR h))))))))))
  | 20, _ => exact (andR (andL (andR (andL (andL (andR (andR (andR (andR (andR h))))))))))
  | n + 21, q => exact absurd q (by unfold nS; omega)
theorem ns5 (h : (Jvm.Cond.and given_1 narrow_1).before args s = true) : ∀ i, i < nS → (Cond.eq (.length (.field (tmS i) "java/lang/String" "value" "[B")) (.int (Int32.ofNat (stLen.getD i 0)))).before args s = true := by
  intro i hi
  match i, hi with
  | 0, _ => exact (andR (andL (andR (andR (andL (andR (andL (andL (andL (andR h))))))))))
  | 1, _ => exact (andL (andL (andR (andL (andR (andR (andL (andL (andL (andR h))))))))))
  | 2, _ => exact (andR (andL (andR (andR (andR (andR (andL (andL (andL (andR h))))))))))
  | 3, _ => exact (andR (andR (andR (andL (andL (andL (andR (andL (andL (andR h))))))))))
  | 4, _ => exact (andL (andL (andR (andL (andR (andL (andR (andL (andL (andR h))))))))))
  | 5, _ => exact (andL (andL (andL (andL (andL (andR (andR (andL (andL (andR h))))))))))
  | 6, _ => exact (andL (andR (andR (andR (andR (andL (andR (andR (andL (andL (andR h)))))))))))
  | 7, _ => exact (andR (andL (andR (andR (andR (andR (andR (andL (andL (andR h))))))))))
  | 8, _ => exact (andL (andL (andR (andR (andL (andL (andL (andR (andL (andR h))))))))))
  | 9, _ => exact (andR (andL (andR (andR (andR (andL (andL (andR (andL (andR h))))))))))
  | 10, _ => exact (andR (andL (andR (andR (andL (andR (andL (andR (andL (andR h))))))))))
  | 11, _ => exact (andL (andR (andR (andR (andR (andR (andR (andL (andR (andL (andR h)))))))))))
  | 12, _ => exact (andL (andR (andL (andL (andR (andL (andR (andR (andL (andR h))))))))))
  | 13, _ => exact (andL (andR (andR (andL (andL (andR (andR (andR (andL (andR h))))))))))
  | 14, _ => exact (andR (andR (andL (andR (andR (andR (andR (andR (andL (andR h))))))))))
  | 15, _ => exact (andL (andL (andL (andL (andR (andL (andL (andL (andR (andR h))))))))))
  | 16, _ => exact (andL (andR (andR (andL (andL (andR (andL (andL (andR (andR h))))))))))
  | 17, _ => exact (andR (andL (andR (andR (andR (andR (andL (andL (andR (andR h))))))))))
  | 18, _ => exact (andL (andL (andR (andL (andR (andL (andR (andL (andR (andR h))))))))))
  | 19, _ => exact (andR (andR (andL (andR (andL (andR (andR (andL (andR (andR h))))))))))
  | 20, _ => exact (andL (andR (andR (andL (andL (andR (andR (andR (andR (andR h))))))))))
  | n + 21, q => exact absurd q (by unfold nS; omega)
theorem ns6_0 (h : (Jvm.Cond.and given_1 narrow_1).before args s = true) : ∀ j, j < 4 → (Cond.eq (.elem (.field (tmS 0) "java/lang/String" "value" "[B") (.int (Int32.ofNat j))) (.int ((stByt.getD 0 []).getD j 0))).before args s = true := by
  intro j hj
  match j, hj with
  | 0, _ => exact (andL (andR (andR (andR (andL (andR (andL (andL (andL (andR h))))))))))
  | 1, _ => exact (andL (andR (andR (andR (andR (andL (andR (andL (andL (andL (andR h)))))))))))
  | 2, _ => exact (andR (andR (andR (andR (andR (andL (andR (andL (andL (andL (andR h)))))))))))
  | 3, _ => exact (andL (andL (andL (andL (andR (andR (andL (andL (andL (andR h))))))))))
  | n + 4, q => exact absurd q (by omega)
theorem ns6_1 (h : (Jvm.Cond.and given_1 narrow_1).before args s = true) : ∀ j, j < 4 → (Cond.eq (.elem (.field (tmS 1) "java/lang/String" "value" "[B") (.int (Int32.ofNat j))) (.int ((stByt.getD 1 []).getD j 0))).before args s = true := by
  intro j hj
  match j, hj with
  | 0, _ => exact (andR (andL (andR (andL (andR (andR (andL (andL (andL (andR h))))))))))
  | 1, _ => exact (andL (andR (andR (andL (andR (andR (andL (andL (andL (andR h))))))))))
  | 2, _ => exact (andR (andR (andR (andL (andR (andR (andL (andL (andL (andR h))))))))))
  | 3, _ => exact (andL (andL (andL (andR (andR (andR (andL (andL (andL (andR h))))))))))
  | n + 4, q => exact absurd q (by omega)
theorem ns6_2 (h : (Jvm.Cond.and given_1 narrow_1).before args s = true) : ∀ j, j < 5 → (Cond.eq (.elem (.field (tmS 2) "java/lang/String" "value" "[B") (.int (Int32.ofNat j))) (.int ((stByt.getD 2 []).getD j 0))).before args s = true := by
  intro j hj
  match j, hj with
  | 0, _ => exact (andL (andR (andR (andR (andR (andR (andL (andL (andL (andR h))))))))))
  | 1, _ => exact (andL (andR (andR (andR (andR (andR (andR (andL (andL (andL (andR h)))))))))))
  | 2, _ => exact (andR (andR (andR (andR (andR (andR (andR (andL (andL (andL (andR h)))))))))))
  | 3, _ => exact (andL (andL (andL (andL (andL (andL (andR (andL (andL (andR h))))))))))
  | 4, _ => exact (andR (andL (andL (andL (andL (andL (andR (andL (andL (andR h))))))))))
  | n + 5, q => exact absurd q (by omega)
theorem ns6_3 (h : (Jvm.Cond.and given_1 narrow_1).before args s = true) : ∀ j, j < 6 → (Cond.eq (.elem (.field (tmS 3) "java/lang/String" "value" "[B") (.int (Int32.ofNat j))) (.int ((stByt.getD 3 []).getD j 0))).before args s = true := by
  intro j hj
  match j, hj with
  | 0, _ => exact (andL (andL (andL (andR (andL (andL (andR (andL (andL (andR h))))))))))
  | 1, _ => exact (andR (andL (andL (andR (andL (andL (andR (andL (andL (andR h))))))))))
  | 2, _ => exact (andL (andR (andL (andR (andL (andL (andR (andL (andL (andR h))))))))))
  | 3, _ => exact (andR (andR (andL (andR (andL (andL (andR (andL (andL (andR h))))))))))
  | 4, _ => exact (andL (andL (andR (andR (andL (andL (andR (andL (andL (andR h))))))))))
  | 5, _ => exact (andR (andL (andR (andR (andL (andL (andR (andL (andL (andR h))))))))))
  | n + 6, q => exact absurd q (by omega)
theorem ns6_4 (h : (Jvm.Cond.and given_1 narrow_1).before args s = true) : ∀ j, j < 5 → (Cond.eq (.elem (.field (tmS 4) "java/lang/String" "value" "[B") (.int (Int32.ofNat j))) (.int ((stByt.getD 4 []).getD j 0))).before args s = true := by
  intro j hj
  match j, hj with
  | 0, _ => exact (andR (andL (andR (andL (andR (andL (andR (andL (andL (andR h))))))))))
  | 1, _ => exact (andL (andR (andR (andL (andR (andL (andR (andL (andL (andR h))))))))))
  | 2, _ => exact (andR (andR (andR (andL (andR (andL (andR (andL (andL (andR h))))))))))
  | 3, _ => exact (andL (andL (andL (andR (andR (andL (andR (andL (andL (andR h))))))))))
  | 4, _ => exact (andR (andL (andL (andR (andR (andL (andR (andL (andL (andR h))))))))))
  | n + 5, q => exact absurd q (by omega)
theorem ns6_5 (h : (Jvm.Cond.and given_1 narrow_1).before args s = true) : ∀ j, j < 6 → (Cond.eq (.elem (.field (tmS 5) "java/lang/String" "value" "[B") (.int (Int32.ofNat j))) (.int ((stByt.getD 5 []).getD j 0))).before args s = true := by
  intro j hj
  match j, hj with
  | 0, _ => exact (andR (andL (andL (andL (andL (andR (andR (andL (andL (andR h))))))))))
  | 1, _ => exact (andL (andR (andL (andL (andL (andR (andR (andL (andL (andR h))))))))))
  | 2, _ => exact (andR (andR (andL (andL (andL (andR (andR (andL (andL (andR h))))))))))
  | 3, _ => exact (andL (andL (andR (andL (andL (andR (andR (andL (andL (andR h))))))))))
  | 4, _ => exact (andR (andL (andR (andL (andL (andR (andR (andL (andL (andR h))))))))))
  | 5, _ => exact (andL (andR (andR (andL (andL (andR (andR (andL (andL (andR h))))))))))
  | n + 6, q => exact absurd q (by omega)
theorem ns6_6 (h : (Jvm.Cond.and given_1 narrow_1).before args s = true) : ∀ j, j < 5 → (Cond.eq (.elem (.field (tmS 6) "java/lang/String" "value" "[B") (.int (Int32.ofNat j))) (.int ((stByt.getD 6 []).getD j 0))).before args s = true := by
  intro j hj
  match j, hj with
  | 0, _ => exact (andR (andR (andR (andR (andR (andL (andR (andR (andL (andL (andR h)))))))))))
  | 1, _ => exact (andL (andL (andL (andL (andR (andR (andR (andL (andL (andR h))))))))))
  | 2, _ => exact (andR (andL (andL (andL (andR (andR (andR (andL (andL (andR h))))))))))
  | 3, _ => exact (andL (andR (andL (andL (andR (andR (andR (andL (andL (andR h))))))))))
  | 4, _ => exact (andR (andR (andL (andL (andR (andR (andR (andL (andL (andR h))))))))))
  | n + 5, q => exact absurd q (by omega)
theorem ns6_7 (h : (Jvm.Cond.and given_1 narrow_1).before args s = true) : ∀ j, j < 5 → (Cond.eq (.elem (.field (tmS 7) "java/lang/String" "value" "[B") (.int (Int32.ofNat j))) (.int ((stByt.getD 7 []).getD j 0))).before args s = true := by
  intro j hj
  match j, hj with
  | 0, _ => exact (andL (andR (andR (andR (andR (andR (andR (andL (andL (andR h))))))))))
  | 1, _ => exact (andL (andR (andR (andR (andR (andR (andR (andR (andL (andL (andR h)))))))))))
  | 2, _ => exact (andR (andR (andR (andR (andR (andR (andR (andR (andL (andL (andR h)))))))))))
  | 3, _ => exact (andL (andL (andL (andL (andL (andL (andL (andR (andL (andR h))))))))))
  | 4, _ => exact (andR (andL (andL (andL (andL (andL (andL (andR (andL (andR h))))))))))
  | n + 5, q => exact absurd q (by omega)
theorem ns6_8 (h : (Jvm.Cond.and given_1 narrow_1).before args s = true) : ∀ j, j < 5 → (Cond.eq (.elem (.field (tmS 8) "java/lang/String" "value" "[B") (.int (Int32.ofNat j))) (.int ((stByt.getD 8 []).getD j 0))).before args s = true := by
  intro j hj
  match j, hj with
  | 0, _ => exact (andR (andL (andR (andR (andL (andL (andL (andR (andL (andR h))))))))))
  | 1, _ => exact (andL (andR (andR (andR (andL (andL (andL (andR (andL (andR h))))))))))
  | 2, _ => exact (andR (andR (andR (andR (andL (andL (andL (andR (andL (andR h))))))))))
  | 3, _ => exact (andL (andL (andL (andL (andR (andL (andL (andR (andL (andR h))))))))))
  | 4, _ => exact (andR (andL (andL (andL (andR (andL (andL (andR (andL (andR h))))))))))
  | n + 5, q => exact absurd q (by omega)
theorem ns6_9 (h : (Jvm.Cond.and given_1 narrow_1).before args s = true) : ∀ j, j < 4 → (Cond.eq (.elem (.field (tmS 9) "java/lang/String" "value" "[B") (.int (Int32.ofNat j))) (.int ((stByt.getD 9 []).getD j 0))).before args s = true := by
  intro j hj
  match j, hj with
  | 0, _ => exact (andL (andR (andR (andR (andR (andL (andL (andR (andL (andR h))))))))))
  | 1, _ => exact (andL (andR (andR (andR (andR (andR (andL (andL (andR (andL (andR h)))))))))))
  | 2, _ => exact (andR (andR (andR (andR (andR (andR (andL (andL (andR (andL (andR h)))))))))))
  | 3, _ => exact (andL (andL (andL (andL (andL (andR (andL (andR (andL (andR h))))))))))
  | n + 4, q => exact absurd q (by omega)
theorem ns6_10 (h : (Jvm.Cond.and given_1 narrow_1).before args s = true) : ∀ j, j < 5 → (Cond.eq (.elem (.field (tmS 10) "java/lang/String" "value" "[B") (.int (Int32.ofNat j))) (.int ((stByt.getD 10 []).getD j 0))).before args s = true := by
  intro j hj
  match j, hj with
  | 0, _ => exact (andL (andR (andR (andR (andL (andR (andL (andR (andL (andR h))))))))))
  | 1, _ => exact (andL (andR (andR (andR (andR (andL (andR (andL (andR (andL (andR h)))))))))))
  | 2, _ => exact (andR (andR (andR (andR (andR (andL (andR (andL (andR (andL (andR h)))))))))))
  | 3, _ => exact (andL (andL (andL (andL (andR (andR (andL (andR (andL (andR h))))))))))
  | 4, _ => exact (andR (andL (andL (andL (andR (andR (andL (andR (andL (andR h))))))))))
  | n + 5, q => exact absurd q (by omega)
theorem ns6_11 (h : (Jvm.Cond.and given_1 narrow_1).before args s = true) : ∀ j, j < 6 → (Cond.eq (.elem (.field (tmS 11) "java/lang/String" "value" "[B") (.int (Int32.ofNat j))) (.int ((stByt.getD 11 []).getD j 0))).before args s = true := by
  intro j hj
  match j, hj with
  | 0, _ => exact (andR (andR (andR (andR (andR (andR (andR (andL (andR (andL (andR h)))))))))))
  | 1, _ => exact (andL (andL (andL (andL (andL (andL (andR (andR (andL (andR h))))))))))
  | 2, _ => exact (andR (andL (andL (andL (andL (andL (andR (andR (andL (andR h))))))))))
  | 3, _ => exact (andL (andR (andL (andL (andL (andL (andR (andR (andL (andR h))))))))))
  | 4, _ => exact (andR (andR (andL (andL (andL (andL (andR (andR (andL (andR h))))))))))
  | 5, _ => exact (andL (andL (andR (andL (andL (andL (andR (andR (andL (andR h))))))))))
  | n + 6, q => exact absurd q (by omega)
theorem ns6_12 (h : (Jvm.Cond.and given_1 narrow_1).before args s = true) : ∀ j, j < 5 → (Cond.eq (.elem (.field (tmS 12) "java/lang/String" "value" "[B") (.int (Int32.ofNat j))) (.int ((stByt.getD 12 []).getD j 0))).before args s = true := by
  intro j hj
  match j, hj with
  | 0, _ => exact (andR (andR (andL (andL (andR (andL (andR (andR (andL (andR h))))))))))
  | 1, _ => exact (andL (andL (andR (andL (andR (andL (andR (andR (andL (andR h))))))))))
  | 2, _ => exact (andR (andL (andR (andL (andR (andL (andR (andR (andL (andR h))))))))))
  | 3, _ => exact (andL (andR (andR (andL (andR (andL (andR (andR (andL (andR h))))))))))
  | 4, _ => exact (andR (andR (andR (andL (andR (andL (andR (andR (andL (andR h))))))))))
  | n + 5, q => exact absurd q (by omega)
theorem ns6_13 (h : (Jvm.Cond.and given_1 narrow_1).before args s = true) : ∀ j, j < 5 → (Cond.eq (.elem (.field (tmS 13) "java/lang/String" "value" "[B") (.int (Int32.ofNat j))) (.int ((stByt.getD 13 []).getD j 0))).before args s = true := by
  intro j hj
  match j, hj with
  | 0, _ => exact (andR (andR (andR (andL (andL (andR (andR (andR (andL (andR h))))))))))
  | 1, _ => exact (andL (andL (andL (andR (andL (andR (andR (andR (andL (andR h))))))))))
  | 2, _ => exact (andR (andL (andL (andR (andL (andR (andR (andR (andL (andR h))))))))))
  | 3, _ => exact (andL (andR (andL (andR (andL (andR (andR (andR (andL (andR h))))))))))
  | 4, _ => exact (andR (andR (andL (andR (andL (andR (andR (andR (andL (andR h))))))))))
  | n + 5, q => exact absurd q (by omega)
theorem ns6_14 (h : (Jvm.Cond.and given_1 narrow_1).before args s = true) : ∀ j, j < 4 → (Cond.eq (.elem (.field (tmS 14) "java/lang/String" "value" "[B") (.int (Int32.ofNat j))) (.int ((stByt.getD 14 []).getD j 0))).before args s = true := by
  intro j hj
  match j, hj with
  | 0, _ => exact (andL (andL (andR (andR (andR (andR (andR (andR (andL (andR h))))))))))
  | 1, _ => exact (andR (andL (andR (andR (andR (andR (andR (andR (andL (andR h))))))))))
  | 2, _ => exact (andL (andR (andR (andR (andR (andR (andR (andR (andL (andR h))))))))))
  | 3, _ => exact (andL (andR (andR (andR (andR (andR (andR (andR (andR (andL (andR h)))))))))))
  | n + 4, q => exact absurd q (by omega)
theorem ns6_15 (h : (Jvm.Cond.and given_1 narrow_1).before args s = true) : ∀ j, j < 4 → (Cond.eq (.elem (.field (tmS 15) "java/lang/String" "value" "[B") (.int (Int32.ofNat j))) (.int ((stByt.getD 15 []).getD j 0))).before args s = true := by
  intro j hj
  match j, hj with
  | 0, _ => exact (andR (andL (andL (andL (andR (andL (andL (andL (andR (andR h))))))))))
  | 1, _ => exact (andL (andR (andL (andL (andR (andL (andL (andL (andR (andR h))))))))))
  | 2, _ => exact (andR (andR (andL (andL (andR (andL (andL (andL (andR (andR h))))))))))
  | 3, _ => exact (andL (andL (andR (andL (andR (andL (andL (andL (andR (andR h))))))))))
  | n + 4, q => exact absurd q (by omega)
theorem ns6_16 (h : (Jvm.Cond.and given_1 narrow_1).before args s = true) : ∀ j, j < 4 → (Cond.eq (.elem (.field (tmS 16) "java/lang/String" "value" "[B") (.int (Int32.ofNat j))) (.int ((stByt.getD 16 []).getD j 0))).before args s = true := by
  intro j hj
  match j, hj with
  | 0, _ => exact (andR (andR (andR (andL (andL (andR (andL (andL (andR (andR h))))))))))
  | 1, _ => exact (andL (andL (andL (andR (andL (andR (andL (andL (andR (andR h))))))))))
  | 2, _ => exact (andR (andL (andL (andR (andL (andR (andL (andL (andR (andR h))))))))))
  | 3, _ => exact (andL (andR (andL (andR (andL (andR (andL (andL (andR (andR h))))))))))
  | n + 4, q => exact absurd q (by omega)
theorem ns6_17 (h : (Jvm.Cond.and given_1 narrow_1).before args s = true) : ∀ j, j < 3 → (Cond.eq (.elem (.field (tmS 17) "java/lang/String" "value" "[B") (.int (Int32.ofNat j))) (.int ((stByt.getD 17 []).getD j 0))).before args s = true := by
  intro j hj
  match j, hj with
  | 0, _ => exact (andL (andR (andR (andR (andR (andR (andL (andL (andR (andR h))))))))))
  | 1, _ => exact (andL (andR (andR (andR (andR (andR (andR (andL (andL (andR (andR h)))))))))))
  | 2, _ => exact (andR (andR (andR (andR (andR (andR (andR (andL (andL (andR (andR h)))))))))))
  | n + 3, q => exact absurd q (by omega)
theorem ns6_18 (h : (Jvm.Cond.and given_1 narrow_1).before args s = true) : ∀ j, j < 2 → (Cond.eq (.elem (.field (tmS 18) "java/lang/String" "value" "[B") (.int (Int32.ofNat j))) (.int ((stByt.getD 18 []).getD j 0))).before args s = true := by
  intro j hj
  match j, hj with
  | 0, _ => exact (andR (andL (andR (andL (andR (andL (andR (andL (andR (andR h))))))))))
  | 1, _ => exact (andL (andR (andR (andL (andR (andL (andR (andL (andR (andR h))))))))))
  | n + 2, q => exact absurd q (by omega)
theorem ns6_19 (h : (Jvm.Cond.and given_1 narrow_1).before args s = true) : ∀ j, j < 107 → (Cond.eq (.elem (.field (tmS 19) "java/lang/String" "value" "[B") (.int (Int32.ofNat j))) (.int ((stByt.getD 19 []).getD j 0))).before args s = true := by
  intro j hj
  match j, hj with
  | 0, _ => exact (andL (andL (andR (andR (andL (andR (andR (andL (andR (andR h))))))))))
  | 1, _ => exact (andR (andL (andR (andR (andL (andR (andR (andL (andR (andR h))))))))))
  | 2, _ => exact (andL (andR (andR (andR (andL (andR (andR (andL (andR (andR h))))))))))
  | 3, _ => exact (andL (andR (andR (andR (andR (andL (andR (andR (andL (andR (andR h)))))))))))
  | 4, _ => exact (andR (andR (andR (andR (andR (andL (andR (andR (andL (andR (andR h)))))))))))
  | 5, _ => exact (andL (andL (andL (andL (andR (andR (andR (andL (andR (andR h))))))))))
  | 6, _ => exact (andR (andL (andL (andL (andR (andR (andR (andL (andR (andR h))))))))))
  | 7, _ => exact (andL (andR (andL (andL (andR (andR (andR (andL (andR (andR h))))))))))
  | 8, _ => exact (andR (andR (andL (andL (andR (andR (andR (andL (andR (andR h))))))))))
  | 9, _ => exact (andL (andL (andR (andL (andR (andR (andR (andL (andR (andR h))))))))))
  | 10, _ => exact (andR (andL (andR (andL (andR (andR (andR (andL (andR (andR h))))))))))
  | 11, _ => exact (andL (andR (andR (andL (andR (andR (andR (andL (andR (andR h))))))))))
  | 12, _ => exact (andR (andR (andR (andL (andR (andR (andR (andL (andR (andR h))))))))))
  | 13, _ => exact (andL (andL (andL (andR (andR (andR (andR (andL (andR (andR h))))))))))
  | 14, _ => exact (andR (andL (andL (andR (andR (andR (andR (andL (andR (andR h))))))))))
  | 15, _ => exact (andL (andR (andL (andR (andR (andR (andR (andL (andR (andR h))))))))))
  | 16, _ => exact (andR (andR (andL (andR (andR (andR (andR (andL (andR (andR h))))))))))
  | 17, _ => exact (andL (andL (andR (andR (andR (andR (andR (andL (andR (andR h))))))))))
  | 18, _ => exact (andR (andL (andR (andR (andR (andR (andR (andL (andR (andR h))))))))))
  | 19, _ => exact (andL (andR (andR (andR (andR (andR (andR (andL (andR (andR h))))))))))
  | 20, _ => exact (andL (andR (andR (andR (andR (andR (andR (andR (andL (andR (andR h)))))))))))
  | 21, _ => exact (andR (andR (andR (andR (andR (andR (andR (andR (andL (andR (andR h)))))))))))
  | 22, _ => exact (andL (andL (andL (andL (andL (andL (andL (andR (andR (andR h))))))))))
  | 23, _ => exact (andR (andL (andL (andL (andL (andL (andL (andR (andR (andR h))))))))))
  | 24, _ => exact (andL (andR (andL (andL (andL (andL (andL (andR (andR (andR h))))))))))
  | 25, _ => exact (andR (andR (andL (andL (andL (andL (andL (andR (andR (andR h))))))))))
  | 26, _ => exact (andL (andL (andR (andL (andL (andL (andL (andR (andR (andR h))))))))))
  | 27, _ => exact (andR (andL (andR (andL (andL (andL (andL (andR (andR (andR h))))))))))
  | 28, _ => exact (andL (andR (andR (andL (andL (andL (andL (andR (andR (andR h))))))))))
  | 29, _ => exact (andR (andR (andR (andL (andL (andL (andL (andR (andR (andR h))))))))))
  | 30, _ => exact (andL (andL (andL (andR (andL (andL (andL (andR (andR (andR h))))))))))
  | 31, _ => exact (andR (andL (andL (andR (andL (andL (andL (andR (andR (andR h))))))))))
  | 32, _ => exact (andL (andR (andL (andR (andL (andL (andL (andR (andR (andR h))))))))))
  | 33, _ => exact (andR (andR (andL (andR (andL (andL (andL (andR (andR (andR h))))))))))
  | 34, _ => exact (andL (andL (andR (andR (andL (andL (andL (andR (andR (andR h))))))))))
  | 35, _ => exact (andR (andL (andR (andR (andL (andL (andL (andR (andR (andR h))))))))))
  | 36, _ => exact (andL (andR (andR (andR (andL (andL (andL (andR (andR (andR h))))))))))
  | 37, _ => exact (andR (andR (andR (andR (andL (andL (andL (andR (andR (andR h))))))))))
  | 38, _ => exact (andL (andL (andL (andL (andR (andL (andL (andR (andR (andR h))))))))))
  | 39, _ => exact (andR (andL (andL (andL (andR (andL (andL (andR (andR (andR h))))))))))
  | 40, _ => exact (andL (andR (andL (andL (andR (andL (andL (andR (andR (andR h))))))))))
  | 41, _ => exact (andR (andR (andL (andL (andR (andL (andL (andR (andR (andR h))))))))))
  | 42, _ => exact (andL (andL (andR (andL (andR (andL (andL (andR (andR (andR h))))))))))
  | 43, _ => exact (andR (andL (andR (andL (andR (andL (andL (andR (andR (andR h))))))))))
  | 44, _ => exact (andL (andR (andR (andL (andR (andL (andL (andR (andR (andR h))))))))))
  | 45, _ => exact (andR (andR (andR (andL (andR (andL (andL (andR (andR (andR h))))))))))
  | 46, _ => exact (andL (andL (andL (andR (andR (andL (andL (andR (andR (andR h))))))))))
  | 47, _ => exact (andR (andL (andL (andR (andR (andL (andL (andR (andR (andR h))))))))))
  | 48, _ => exact (andL (andR (andL (andR (andR (andL (andL (andR (andR (andR h))))))))))
  | 49, _ => exact (andR (andR (andL (andR (andR (andL (andL (andR (andR (andR h))))))))))
  | 50, _ => exact (andL (andL (andR (andR (andR (andL (andL (andR (andR (andR h))))))))))
  | 51, _ => exact (andR (andL (andR (andR (andR (andL (andL (andR (andR (andR h))))))))))
  | 52, _ => exact (andL (andR (andR (andR (andR (andL (andL (andR (andR (andR h))))))))))
  | 53, _ => exact (andL (andR (andR (andR (andR (andR (andL (andL (andR (andR (andR h)))))))))))
  | 54, _ => exact (andR (andR (andR (andR (andR (andR (andL (andL (andR (andR (andR h)))))))))))
  | 55, _ => exact (andL (andL (andL (andL (andL (andR (andL (andR (andR (andR h))))))))))
  | 56, _ => exact (andR (andL (andL (andL (andL (andR (andL (andR (andR (andR h))))))))))
  | 57, _ => exact (andL (andR (andL (andL (andL (andR (andL (andR (andR (andR h))))))))))
  | 58, _ => exact (andR (andR (andL (andL (andL (andR (andL (andR (andR (andR h))))))))))
  | 59, _ => exact (andL (andL (andR (andL (andL (andR (andL (andR (andR (andR h))))))))))
  | 60, _ => exact (andR (andL (andR (andL (andL (andR (andL (andR (andR (andR h))))))))))
  | 61, _ => exact (andL (andR (andR (andL (andL (andR (andL (andR (andR (andR h))))))))))
  | 62, _ => exact (andR (andR (andR (andL (andL (andR (andL (andR (andR (andR h))))))))))
  | 63, _ => exact (andL (andL (andL (andR (andL (andR (andL (andR (andR (andR h))))))))))
  | 64, _ => exact (andR (andL (andL (andR (andL (andR (andL (andR (andR (andR h))))))))))
  | 65, _ => exact (andL (andR (andL (andR (andL (andR (andL (andR (andR (andR h))))))))))
  | 66, _ => exact (andR (andR (andL (andR (andL (andR (andL (andR (andR (andR h))))))))))
  | 67, _ => exact (andL (andL (andR (andR (andL (andR (andL (andR (andR (andR h))))))))))
  | 68, _ => exact (andR (andL (andR (andR (andL (andR (andL (andR (andR (andR h))))))))))
  | 69, _ => exact (andL (andR (andR (andR (andL (andR (andL (andR (andR (andR h))))))))))
  | 70, _ => exact (andL (andR (andR (andR (andR (andL (andR (andL (andR (andR (andR h)))))))))))
  | 71, _ => exact (andR (andR (andR (andR (andR (andL (andR (andL (andR (andR (andR h)))))))))))
  | 72, _ => exact (andL (andL (andL (andL (andR (andR (andL (andR (andR (andR h))))))))))
  | 73, _ => exact (andR (andL (andL (andL (andR (andR (andL (andR (andR (andR h))))))))))
  | 74, _ => exact (andL (andR (andL (andL (andR (andR (andL (andR (andR (andR h))))))))))
  | 75, _ => exact (andR (andR (andL (andL (andR (andR (andL (andR (andR (andR h))))))))))
  | 76, _ => exact (andL (andL (andR (andL (andR (andR (andL (andR (andR (andR h))))))))))
  | 77, _ => exact (andR (andL (andR (andL (andR (andR (andL (andR (andR (andR h))))))))))
  | 78, _ => exact (andL (andR (andR (andL (andR (andR (andL (andR (andR (andR h))))))))))
  | 79, _ => exact (andR (andR (andR (andL (andR (andR (andL (andR (andR (andR h))))))))))
  | 80, _ => exact (andL (andL (andL (andR (andR (andR (andL (andR (andR (andR h))))))))))
  | 81, _ => exact (andR (andL (andL (andR (andR (andR (andL (andR (andR (andR h))))))))))
  | 82, _ => exact (andL (andR (andL (andR (andR (andR (andL (andR (andR (andR h))))))))))
  | 83, _ => exact (andR (andR (andL (andR (andR (andR (andL (andR (andR (andR h))))))))))
  | 84, _ => exact (andL (andL (andR (andR (andR (andR (andL (andR (andR (andR h))))))))))
  | 85, _ => exact (andR (andL (andR (andR (andR (andR (andL (andR (andR (andR h))))))))))
  | 86, _ => exact (andL (andR (andR (andR (andR (andR (andL (andR (andR (andR h))))))))))
  | 87, _ => exact (andL (andR (andR (andR (andR (andR (andR (andL (andR (andR (andR h)))))))))))
  | 88, _ => exact (andR (andR (andR (andR (andR (andR (andR (andL (andR (andR (andR h)))))))))))
  | 89, _ => exact (andL (andL (andL (andL (andL (andL (andR (andR (andR (andR h))))))))))
  | 90, _ => exact (andR (andL (andL (andL (andL (andL (andR (andR (andR (andR h))))))))))
  | 91, _ => exact (andL (andR (andL (andL (andL (andL (andR (andR (andR (andR h))))))))))
  | 92, _ => exact (andR (andR (andL (andL (andL (andL (andR (andR (andR (andR h))))))))))
  | 93, _ => exact (andL (andL (andR (andL (andL (andL (andR (andR (andR (andR h))))))))))
  | 94, _ => exact (andR (andL (andR (andL (andL (andL (andR (andR (andR (andR h))))))))))
  | 95, _ => exact (andL (andR (andR (andL (andL (andL (andR (andR (andR (andR h))))))))))
  | 96, _ => exact (andR (andR (andR (andL (andL (andL (andR (andR (andR (andR h))))))))))
  | 97, _ => exact (andL (andL (andL (andR (andL (andL (andR (andR (andR (andR h))))))))))
  | 98, _ => exact (andR (andL (andL (andR (andL (andL (andR (andR (andR (andR h))))))))))
  | 99, _ => exact (andL (andR (andL (andR (andL (andL (andR (andR (andR (andR h))))))))))
  | 100, _ => exact (andR (andR (andL (andR (andL (andL (andR (andR (andR (andR h))))))))))
  | 101, _ => exact (andL (andL (andR (andR (andL (andL (andR (andR (andR (andR h))))))))))
  | 102, _ => exact (andR (andL (andR (andR (andL (andL (andR (andR (andR (andR h))))))))))
  | 103, _ => exact (andL (andR (andR (andR (andL (andL (andR (andR (andR (andR h))))))))))
  | 104, _ => exact (andL (andR (andR (andR (andR (andL (andL (andR (andR (andR (andR h)))))))))))
  | 105, _ => exact (andR (andR (andR (andR (andR (andL (andL (andR (andR (andR (andR h)))))))))))
  | 106, _ => exact (andL (andL (andL (andL (andR (andL (andR (andR (andR (andR h))))))))))
  | n + 107, q => exact absurd q (by omega)
theorem ns6_20 (h : (Jvm.Cond.and given_1 narrow_1).before args s = true) : ∀ j, j < 7 → (Cond.eq (.elem (.field (tmS 20) "java/lang/String" "value" "[B") (.int (Int32.ofNat j))) (.int ((stByt.getD 20 []).getD j 0))).before args s = true := by
  intro j hj
  match j, hj with
  | 0, _ => exact (andR (andR (andR (andL (andL (andR (andR (andR (andR (andR h))))))))))
  | 1, _ => exact (andL (andL (andL (andR (andL (andR (andR (andR (andR (andR h))))))))))
  | 2, _ => exact (andR (andL (andL (andR (andL (andR (andR (andR (andR (andR h))))))))))
  | 3, _ => exact (andL (andR (andL (andR (andL (andR (andR (andR (andR (andR h))))))))))
  | 4, _ => exact (andR (andR (andL (andR (andL (andR (andR (andR (andR (andR h))))))))))
  | 5, _ => exact (andL (andL (andR (andR (andL (andR (andR (andR (andR (andR h))))))))))
  | 6, _ => exact (andR (andL (andR (andR (andL (andR (andR (andR (andR (andR h))))))))))
  | n + 7, q => exact absurd q (by omega)
theorem ns6 (h : (Jvm.Cond.and given_1 narrow_1).before args s = true) : ∀ i, i < nS → ∀ j, j < stLen.getD i 0 → (Cond.eq (.elem (.field (tmS i) "java/lang/String" "value" "[B") (.int (Int32.ofNat j))) (.int ((stByt.getD i []).getD j 0))).before args s = true := by
  intro i hi
  match i, hi with
  | 0, _ => exact ns6_0 h
  | 1, _ => exact ns6_1 h
  | 2, _ => exact ns6_2 h
  | 3, _ => exact ns6_3 h
  | 4, _ => exact ns6_4 h
  | 5, _ => exact ns6_5 h
  | 6, _ => exact ns6_6 h
  | 7, _ => exact ns6_7 h
  | 8, _ => exact ns6_8 h
  | 9, _ => exact ns6_9 h
  | 10, _ => exact ns6_10 h
  | 11, _ => exact ns6_11 h
  | 12, _ => exact ns6_12 h
  | 13, _ => exact ns6_13 h
  | 14, _ => exact ns6_14 h
  | 15, _ => exact ns6_15 h
  | 16, _ => exact ns6_16 h
  | 17, _ => exact ns6_17 h
  | 18, _ => exact ns6_18 h
  | 19, _ => exact ns6_19 h
  | 20, _ => exact ns6_20 h
  | n + 21, q => exact absurd q (by unfold nS; omega)
theorem ns7_0 (h : (Jvm.Cond.and given_1 narrow_1).before args s = true) : ∀ j, j < nS → 0 ≠ j → (Cond.not (Cond.eq (tmS 0) (tmS j))).before args s = true ∨ (Cond.not (Cond.eq (tmS j) (tmS 0))).before args s = true := by
  intro j hj hne
  match j, hj, hne with
  | 0, _, q => exact absurd rfl q
  | 1, _, _ => exact Or.inl (andR (andL (andL (andR (andR (andR (andL (andL (andL (andR h))))))))))
  | 2, _, _ => exact Or.inl (andL (andR (andL (andL (andL (andL (andR (andL (andL (andR h))))))))))
  | 3, _, _ => exact Or.inl (andL (andR (andR (andR (andL (andL (andR (andL (andL (andR h))))))))))
  | 4, _, _ => exact Or.inl (andL (andR (andL (andR (andR (andL (andR (andL (andL (andR h))))))))))
  | 5, _, _ => exact Or.inl (andR (andR (andR (andL (andL (andR (andR (andL (andL (andR h))))))))))
  | 6, _, _ => exact Or.inl (andL (andL (andR (andL (andR (andR (andR (andL (andL (andR h))))))))))
  | 7, _, _ => exact Or.inl (andL (andR (andL (andL (andL (andL (andL (andR (andL (andR h))))))))))
  | 8, _, _ => exact Or.inl (andL (andR (andL (andL (andR (andL (andL (andR (andL (andR h))))))))))
  | 9, _, _ => exact Or.inl (andR (andL (andL (andL (andL (andR (andL (andR (andL (andR h))))))))))
  | 10, _, _ => exact Or.inl (andL (andR (andL (andL (andR (andR (andL (andR (andL (andR h))))))))))
  | 11, _, _ => exact Or.inl (andR (andL (andR (andL (andL (andL (andR (andR (andL (andR h))))))))))
  | 12, _, _ => exact Or.inl (andL (andL (andL (andR (andR (andL (andR (andR (andL (andR h))))))))))
  | 13, _, _ => exact Or.inl (andL (andL (andR (andR (andL (andR (andR (andR (andL (andR h))))))))))
  | 14, _, _ => exact Or.inl (andR (andR (andR (andR (andR (andR (andR (andR (andR (andL (andR h)))))))))))
  | 15, _, _ => exact Or.inl (andR (andL (andR (andL (andR (andL (andL (andL (andR (andR h))))))))))
  | 16, _, _ => exact Or.inl (andR (andR (andL (andR (andL (andR (andL (andL (andR (andR h))))))))))
  | 17, _, _ => exact Or.inl (andL (andL (andL (andL (andL (andL (andR (andL (andR (andR h))))))))))
  | 18, _, _ => exact Or.inl (andR (andR (andR (andL (andR (andL (andR (andL (andR (andR h))))))))))
  | 19, _, _ => exact Or.inl (andR (andL (andL (andL (andR (andL (andR (andR (andR (andR h))))))))))
  | 20, _, _ => exact Or.inl (andL (andR (andR (andR (andL (andR (andR (andR (andR (andR h))))))))))
  | n + 21, q, _ => exact absurd q (by unfold nS; omega)
theorem ns7_1 (h : (Jvm.Cond.and given_1 narrow_1).before args s = true) : ∀ j, j < nS → 1 ≠ j → (Cond.not (Cond.eq (tmS 1) (tmS j))).before args s = true ∨ (Cond.not (Cond.eq (tmS j) (tmS 1))).before args s = true := by
  intro j hj hne
  match j, hj, hne with
  | 0, _, _ => exact Or.inr (andR (andL (andL (andR (andR (andR (andL (andL (andL (andR h))))))))))
  | 1, _, q => exact absurd rfl q
  | 2, _, _ => exact Or.inl (andR (andR (andL (andL (andL (andL (andR (andL (andL (andR h))))))))))
  | 3, _, _ => exact Or.inl (andR (andR (andR (andR (andL (andL (andR (andL (andL (andR h))))))))))
  | 4, _, _ => exact Or.inl (andR (andR (andL (andR (andR (andL (andR (andL (andL (andR h))))))))))
  | 5, _, _ => exact Or.inl (andL (andL (andL (andR (andL (andR (andR (andL (andL (andR h))))))))))
  | 6, _, _ => exact Or.inl (andR (andL (andR (andL (andR (andR (andR (andL (andL (andR h))))))))))
  | 7, _, _ => exact Or.inl (andR (andR (andL (andL (andL (andL (andL (andR (andL (andR h))))))))))
  | 8, _, _ => exact Or.inl (andR (andR (andL (andL (andR (andL (andL (andR (andL (andR h))))))))))
  | 9, _, _ => exact Or.inl (andL (andR (andL (andL (andL (andR (andL (andR (andL (andR h))))))))))
  | 10, _, _ => exact Or.inl (andR (andR (andL (andL (andR (andR (andL (andR (andL (andR h))))))))))
  | 11, _, _ => exact Or.inl (andL (andR (andR (andL (andL (andL (andR (andR (andL (andR h))))))))))
  | 12, _, _ => exact Or.inl (andR (andL (andL (andR (andR (andL (andR (andR (andL (andR h))))))))))
  | 13, _, _ => exact Or.inl (andR (andL (andR (andR (andL (andR (andR (andR (andL (andR h))))))))))
  | 14, _, _ => exact Or.inl (andL (andL (andL (andL (andL (andL (andL (andL (andR (andR h))))))))))
  | 15, _, _ => exact Or.inl (andL (andR (andR (andL (andR (andL (andL (andL (andR (andR h))))))))))
  | 16, _, _ => exact Or.inl (andL (andL (andR (andR (andL (andR (andL (andL (andR (andR h))))))))))
  | 17, _, _ => exact Or.inl (andR (andL (andL (andL (andL (andL (andR (andL (andR (andR h))))))))))
  | 18, _, _ => exact Or.inl (andL (andL (andL (andR (andR (andL (andR (andL (andR (andR h))))))))))
  | 19, _, _ => exact Or.inl (andL (andR (andL (andL (andR (andL (andR (andR (andR (andR h))))))))))
  | 20, _, _ => exact Or.inl (andL (andR (andR (andR (andR (andL (andR (andR (andR (andR (andR h)))))))))))
  | n + 21, q, _ => exact absurd q (by unfold nS; omega)
theorem ns7_2 (h : (Jvm.Cond.and given_1 narrow_1).before args s = true) : ∀ j, j < nS → 2 ≠ j → (Cond.not (Cond.eq (tmS 2) (tmS j))).before args s = true ∨ (Cond.not (Cond.eq (tmS j) (tmS 2))).before args s = true := by
  intro j hj hne
  match j, hj, hne with
  | 0, _, _ => exact Or.inr (andL (andR (andL (andL (andL (andL (andR (andL (andL (andR h))))))))))
  | 1, _, _ => exact Or.inr (andR (andR (andL (andL (andL (andL (andR (andL (andL (andR h))))))))))
  | 2, _, q => exact absurd rfl q
  | 3, _, _ => exact Or.inl (andL (andL (andL (andL (andR (andL (andR (andL (andL (andR h))))))))))
  | 4, _, _ => exact Or.inl (andL (andL (andR (andR (andR (andL (andR (andL (andL (andR h))))))))))
  | 5, _, _ => exact Or.inl (andR (andL (andL (andR (andL (andR (andR (andL (andL (andR h))))))))))
  | 6, _, _ => exact Or.inl (andL (andR (andR (andL (andR (andR (andR (andL (andL (andR h))))))))))
  | 7, _, _ => exact Or.inl (andL (andL (andR (andL (andL (andL (andL (andR (andL (andR h))))))))))
  | 8, _, _ => exact Or.inl (andL (andL (andR (andL (andR (andL (andL (andR (andL (andR h))))))))))
  | 9, _, _ => exact Or.inl (andR (andR (andL (andL (andL (andR (andL (andR (andL (andR h))))))))))
  | 10, _, _ => exact Or.inl (andL (andL (andR (andL (andR (andR (andL (andR (andL (andR h))))))))))
  | 11, _, _ => exact Or.inl (andR (andR (andR (andL (andL (andL (andR (andR (andL (andR h))))))))))
  | 12, _, _ => exact Or.inl (andL (andR (andL (andR (andR (andL (andR (andR (andL (andR h))))))))))
  | 13, _, _ => exact Or.inl (andL (andR (andR (andR (andL (andR (andR (andR (andL (andR h))))))))))
  | 14, _, _ => exact Or.inl (andR (andL (andL (andL (andL (andL (andL (andL (andR (andR h))))))))))
  | 15, _, _ => exact Or.inl (andR (andR (andR (andL (andR (andL (andL (andL (andR (andR h))))))))))
  | 16, _, _ => exact Or.inl (andR (andL (andR (andR (andL (andR (andL (andL (andR (andR h))))))))))
  | 17, _, _ => exact Or.inl (andL (andR (andL (andL (andL (andL (andR (andL (andR (andR h))))))))))
  | 18, _, _ => exact Or.inl (andR (andL (andL (andR (andR (andL (andR (andL (andR (andR h))))))))))
  | 19, _, _ => exact Or.inl (andR (andR (andL (andL (andR (andL (andR (andR (andR (andR h))))))))))
  | 20, _, _ => exact Or.inl (andR (andR (andR (andR (andR (andL (andR (andR (andR (andR (andR h)))))))))))
  | n + 21, q, _ => exact absurd q (by unfold nS; omega)
theorem ns7_3 (h : (Jvm.Cond.and given_1 narrow_1).before args s = true) : ∀ j, j < nS → 3 ≠ j → (Cond.not (Cond.eq (tmS 3) (tmS j))).before args s = true ∨ (Cond.not (Cond.eq (tmS j) (tmS 3))).before args s = true := by
  intro j hj hne
  match j, hj, hne with
  | 0, _, _ => exact Or.inr (andL (andR (andR (andR (andL (andL (andR (andL (andL (andR h))))))))))
  | 1, _, _ => exact Or.inr (andR (andR (andR (andR (andL (andL (andR (andL (andL (andR h))))))))))
  | 2, _, _ => exact Or.inr (andL (andL (andL (andL (andR (andL (andR (andL (andL (andR h))))))))))
  | 3, _, q => exact absurd rfl q
  | 4, _, _ => exact Or.inl (andR (andL (andR (andR (andR (andL (andR (andL (andL (andR h))))))))))
  | 5, _, _ => exact Or.inl (andL (andR (andL (andR (andL (andR (andR (andL (andL (andR h))))))))))
  | 6, _, _ => exact Or.inl (andR (andR (andR (andL (andR (andR (andR (andL (andL (andR h))))))))))
  | 7, _, _ => exact Or.inl (andR (andL (andR (andL (andL (andL (andL (andR (andL (andR h))))))))))
  | 8, _, _ => exact Or.inl (andR (andL (andR (andL (andR (andL (andL (andR (andL (andR h))))))))))
  | 9, _, _ => exact Or.inl (andL (andL (andR (andL (andL (andR (andL (andR (andL (andR h))))))))))
  | 10, _, _ => exact Or.inl (andR (andL (andR (andL (andR (andR (andL (andR (andL (andR h))))))))))
  | 11, _, _ => exact Or.inl (andL (andL (andL (andR (andL (andL (andR (andR (andL (andR h))))))))))
  | 12, _, _ => exact Or.inl (andR (andR (andL (andR (andR (andL (andR (andR (andL (andR h))))))))))
  | 13, _, _ => exact Or.inl (andL (andR (andR (andR (andR (andL (andR (andR (andR (andL (andR h)))))))))))
  | 14, _, _ => exact Or.inl (andL (andR (andL (andL (andL (andL (andL (andL (andR (andR h))))))))))
  | 15, _, _ => exact Or.inl (andL (andL (andL (andR (andR (andL (andL (andL (andR (andR h))))))))))
  | 16, _, _ => exact Or.inl (andL (andR (andR (andR (andL (andR (andL (andL (andR (andR h))))))))))
  | 17, _, _ => exact Or.inl (andR (andR (andL (andL (andL (andL (andR (andL (andR (andR h))))))))))
  | 18, _, _ => exact Or.inl (andL (andR (andL (andR (andR (andL (andR (andL (andR (andR h))))))))))
  | 19, _, _ => exact Or.inl (andL (andL (andR (andL (andR (andL (andR (andR (andR (andR h))))))))))
  | 20, _, _ => exact Or.inl (andL (andL (andL (andL (andR (andR (andR (andR (andR (andR h))))))))))
  | n + 21, q, _ => exact absurd q (by unfold nS; omega)
theorem ns7_4 (h : (Jvm.Cond.and given_1 narrow_1).before args s = true) : ∀ j, j < nS → 4 ≠ j → (Cond.not (Cond.eq (tmS 4) (tmS j))).before args s = true ∨ (Cond.not (Cond.eq (tmS j) (tmS 4))).before args s = true := by
  intro j hj hne
  match j, hj, hne with
  | 0, _, _ => exact Or.inr (andL (andR (andL (andR (andR (andL (andR (andL (andL (andR h))))))))))
  | 1, _, _ => exact Or.inr (andR (andR (andL (andR (andR (andL (andR (andL (andL (andR h))))))))))
  | 2, _, _ => exact Or.inr (andL (andL (andR (andR (andR (andL (andR (andL (andL (andR h))))))))))
  | 3, _, _ => exact Or.inr (andR (andL (andR (andR (andR (andL (andR (andL (andL (andR h))))))))))
  | 4, _, q => exact absurd rfl q
  | 5, _, _ => exact Or.inl (andR (andR (andL (andR (andL (andR (andR (andL (andL (andR h))))))))))
  | 6, _, _ => exact Or.inl (andL (andL (andL (andR (andR (andR (andR (andL (andL (andR h))))))))))
  | 7, _, _ => exact Or.inl (andL (andR (andR (andL (andL (andL (andL (andR (andL (andR h))))))))))
  | 8, _, _ => exact Or.inl (andL (andR (andR (andL (andR (andL (andL (andR (andL (andR h))))))))))
  | 9, _, _ => exact Or.inl (andR (andL (andR (andL (andL (andR (andL (andR (andL (andR h))))))))))
  | 10, _, _ => exact Or.inl (andL (andR (andR (andL (andR (andR (andL (andR (andL (andR h))))))))))
  | 11, _, _ => exact Or.inl (andR (andL (andL (andR (andL (andL (andR (andR (andL (andR h))))))))))
  | 12, _, _ => exact Or.inl (andL (andL (andR (andR (andR (andL (andR (andR (andL (andR h))))))))))
  | 13, _, _ => exact Or.inl (andR (andR (andR (andR (andR (andL (andR (andR (andR (andL (andR h)))))))))))
  | 14, _, _ => exact Or.inl (andR (andR (andL (andL (andL (andL (andL (andL (andR (andR h))))))))))
  | 15, _, _ => exact Or.inl (andR (andL (andL (andR (andR (andL (andL (andL (andR (andR h))))))))))
  | 16, _, _ => exact Or.inl (andL (andR (andR (andR (andR (andL (andR (andL (andL (andR (andR h)))))))))))
  | 17, _, _ => exact Or.inl (andL (andL (andR (andL (andL (andL (andR (andL (andR (andR h))))))))))
  | 18, _, _ => exact Or.inl (andR (andR (andL (andR (andR (andL (andR (andL (andR (andR h))))))))))
  | 19, _, _ => exact Or.inl (andR (andL (andR (andL (andR (andL (andR (andR (andR (andR h))))))))))
  | 20, _, _ => exact Or.inl (andR (andL (andL (andL (andR (andR (andR (andR (andR (andR h))))))))))
  | n + 21, q, _ => exact absurd q (by unfold nS; omega)
theorem ns7_5 (h : (Jvm.Cond.and given_1 narrow_1).before args s = true) : ∀ j, j < nS → 5 ≠ j → (Cond.not (Cond.eq (tmS 5) (tmS j))).before args s = true ∨ (Cond.not (Cond.eq (tmS j) (tmS 5))).before args s = true := by
  intro j hj hne
  match j, hj, hne with
  | 0, _, _ => exact Or.inr (andR (andR (andR (andL (andL (andR (andR (andL (andL (andR h))))))))))
  | 1, _, _ => exact Or.inr (andL (andL (andL (andR (andL (andR (andR (andL (andL (andR h))))))))))
  | 2, _, _ => exact Or.inr (andR (andL (andL (andR (andL (andR (andR (andL (andL (andR h))))))))))
  | 3, _, _ => exact Or.inr (andL (andR (andL (andR (andL (andR (andR (andL (andL (andR h))))))))))
  | 4, _, _ => exact Or.inr (andR (andR (andL (andR (andL (andR (andR (andL (andL (andR h))))))))))
  | 5, _, q => exact absurd rfl q
  | 6, _, _ => exact Or.inl (andR (andL (andL (andR (andR (andR (andR (andL (andL (andR h))))))))))
  | 7, _, _ => exact Or.inl (andR (andR (andR (andL (andL (andL (andL (andR (andL (andR h))))))))))
  | 8, _, _ => exact Or.inl (andR (andR (andR (andL (andR (andL (andL (andR (andL (andR h))))))))))
  | 9, _, _ => exact Or.inl (andL (andR (andR (andL (andL (andR (andL (andR (andL (andR h))))))))))
  | 10, _, _ => exact Or.inl (andR (andR (andR (andL (andR (andR (andL (andR (andL (andR h))))))))))
  | 11, _, _ => exact Or.inl (andL (andR (andL (andR (andL (andL (andR (andR (andL (andR h))))))))))
  | 12, _, _ => exact Or.inl (andR (andL (andR (andR (andR (andL (andR (andR (andL (andR h))))))))))
  | 13, _, _ => exact Or.inl (andL (andL (andL (andL (andR (andR (andR (andR (andL (andR h))))))))))
  | 14, _, _ => exact Or.inl (andL (andL (andR (andL (andL (andL (andL (andL (andR (andR h))))))))))
  | 15, _, _ => exact Or.inl (andL (andR (andL (andR (andR (andL (andL (andL (andR (andR h))))))))))
  | 16, _, _ => exact Or.inl (andR (andR (andR (andR (andR (andL (andR (andL (andL (andR (andR h)))))))))))
  | 17, _, _ => exact Or.inl (andR (andL (andR (andL (andL (andL (andR (andL (andR (andR h))))))))))
  | 18, _, _ => exact Or.inl (andL (andL (andR (andR (andR (andL (andR (andL (andR (andR h))))))))))
  | 19, _, _ => exact Or.inl (andL (andR (andR (andL (andR (andL (andR (andR (andR (andR h))))))))))
  | 20, _, _ => exact Or.inl (andL (andR (andL (andL (andR (andR (andR (andR (andR (andR h))))))))))
  | n + 21, q, _ => exact absurd q (by unfold nS; omega)
theorem ns7_6 (h : (Jvm.Cond.and given_1 narrow_1).before args s = true) : ∀ j, j < nS → 6 ≠ j → (Cond.not (Cond.eq (tmS 6) (tmS j))).before args s = true ∨ (Cond.not (Cond.eq (tmS j) (tmS 6))).before args s = true := by
  intro j hj hne
  match j, hj, hne with
  | 0, _, _ => exact Or.inr (andL (andL (andR (andL (andR (andR (andR (andL (andL (andR h))))))))))
  | 1, _, _ => exact Or.inr (andR (andL (andR (andL (andR (andR (andR (andL (andL (andR h))))))))))
  | 2, _, _ => exact Or.inr (andL (andR (andR (andL (andR (andR (andR (andL (andL (andR h))))))))))
  | 3, _, _ => exact Or.inr (andR (andR (andR (andL (andR (andR (andR (andL (andL (andR h))))))))))
  | 4, _, _ => exact Or.inr (andL (andL (andL (andR (andR (andR (andR (andL (andL (andR h))))))))))
  | 5, _, _ => exact Or.inr (andR (andL (andL (andR (andR (andR (andR (andL (andL (andR h))))))))))
  | 6, _, q => exact absurd rfl q
  | 7, _, _ => exact Or.inl (andL (andL (andL (andR (andL (andL (andL (andR (andL (andR h))))))))))
  | 8, _, _ => exact Or.inl (andL (andL (andL (andR (andR (andL (andL (andR (andL (andR h))))))))))
  | 9, _, _ => exact Or.inl (andR (andR (andR (andL (andL (andR (andL (andR (andL (andR h))))))))))
  | 10, _, _ => exact Or.inl (andL (andL (andL (andR (andR (andR (andL (andR (andL (andR h))))))))))
  | 11, _, _ => exact Or.inl (andR (andR (andL (andR (andL (andL (andR (andR (andL (andR h))))))))))
  | 12, _, _ => exact Or.inl (andL (andR (andR (andR (andR (andL (andR (andR (andL (andR h))))))))))
  | 13, _, _ => exact Or.inl (andR (andL (andL (andL (andR (andR (andR (andR (andL (andR h))))))))))
  | 14, _, _ => exact Or.inl (andR (andL (andR (andL (andL (andL (andL (andL (andR (andR h))))))))))
  | 15, _, _ => exact Or.inl (andR (andR (andL (andR (andR (andL (andL (andL (andR (andR h))))))))))
  | 16, _, _ => exact Or.inl (andL (andL (andL (andL (andR (andR (andL (andL (andR (andR h))))))))))
  | 17, _, _ => exact Or.inl (andL (andR (andR (andL (andL (andL (andR (andL (andR (andR h))))))))))
  | 18, _, _ => exact Or.inl (andR (andL (andR (andR (andR (andL (andR (andL (andR (andR h))))))))))
  | 19, _, _ => exact Or.inl (andR (andR (andR (andL (andR (andL (andR (andR (andR (andR h))))))))))
  | 20, _, _ => exact Or.inl (andR (andR (andL (andL (andR (andR (andR (andR (andR (andR h))))))))))
  | n + 21, q, _ => exact absurd q (by unfold nS; omega)
theorem ns7_7 (h : (Jvm.Cond.and given_1 narrow_1).before args s = true) : ∀ j, j < nS → 7 ≠ j → (Cond.not (Cond.eq (tmS 7) (tmS j))).before args s = true ∨ (Cond.not (Cond.eq (tmS j) (tmS 7))).before args s = true := by
  intro j hj hne
  match j, hj, hne with
  | 0, _, _ => exact Or.inr (andL (andR (andL (andL (andL (andL (andL (andR (andL (andR h))))))))))
  | 1, _, _ => exact Or.inr (andR (andR (andL (andL (andL (andL (andL (andR (andL (andR h))))))))))
  | 2, _, _ => exact Or.inr (andL (andL (andR (andL (andL (andL (andL (andR (andL (andR h))))))))))
  | 3, _, _ => exact Or.inr (andR (andL (andR (andL (andL (andL (andL (andR (andL (andR h))))))))))
  | 4, _, _ => exact Or.inr (andL (andR (andR (andL (andL (andL (andL (andR (andL (andR h))))))))))
  | 5, _, _ => exact Or.inr (andR (andR (andR (andL (andL (andL (andL (andR (andL (andR h))))))))))
  | 6, _, _ => exact Or.inr (andL (andL (andL (andR (andL (andL (andL (andR (andL (andR h))))))))))
  | 7, _, q => exact absurd rfl q
  | 8, _, _ => exact Or.inl (andR (andL (andL (andR (andR (andL (andL (andR (andL (andR h))))))))))
  | 9, _, _ => exact Or.inl (andL (andL (andL (andR (andL (andR (andL (andR (andL (andR h))))))))))
  | 10, _, _ => exact Or.inl (andR (andL (andL (andR (andR (andR (andL (andR (andL (andR h))))))))))
  | 11, _, _ => exact Or.inl (andL (andL (andR (andR (andL (andL (andR (andR (andL (andR h))))))))))
  | 12, _, _ => exact Or.inl (andL (andR (andR (andR (andR (andR (andL (andR (andR (andL (andR h)))))))))))
  | 13, _, _ => exact Or.inl (andL (andR (andL (andL (andR (andR (andR (andR (andL (andR h))))))))))
  | 14, _, _ => exact Or.inl (andL (andR (andR (andL (andL (andL (andL (andL (andR (andR h))))))))))
  | 15, _, _ => exact Or.inl (andL (andL (andR (andR (andR (andL (andL (andL (andR (andR h))))))))))
  | 16, _, _ => exact Or.inl (andR (andL (andL (andL (andR (andR (andL (andL (andR (andR h))))))))))
  | 17, _, _ => exact Or.inl (andR (andR (andR (andL (andL (andL (andR (andL (andR (andR h))))))))))
  | 18, _, _ => exact Or.inl (andL (andR (andR (andR (andR (andL (andR (andL (andR (andR h))))))))))
  | 19, _, _ => exact Or.inl (andL (andL (andL (andR (andR (andL (andR (andR (andR (andR h))))))))))
  | 20, _, _ => exact Or.inl (andL (andL (andR (andL (andR (andR (andR (andR (andR (andR h))))))))))
  | n + 21, q, _ => exact absurd q (by unfold nS; omega)
theorem ns7_8 (h : (Jvm.Cond.and given_1 narrow_1).before args s = true) : ∀ j, j < nS → 8 ≠ j → (Cond.not (Cond.eq (tmS 8) (tmS j))).before args s = true ∨ (Cond.not (Cond.eq (tmS j) (tmS 8))).before args s = true := by
  intro j hj hne
  match j, hj, hne with
  | 0, _, _ => exact Or.inr (andL (andR (andL (andL (andR (andL (andL (andR (andL (andR h))))))))))
  | 1, _, _ => exact Or.inr (andR (andR (andL (andL (andR (andL (andL (andR (andL (andR h))))))))))
  | 2, _, _ => exact Or.inr (andL (andL (andR (andL (andR (andL (andL (andR (andL (andR h))))))))))
  | 3, _, _ => exact Or.inr (andR (andL (andR (andL (andR (andL (andL (andR (andL (andR h))))))))))
  | 4, _, _ => exact Or.inr (andL (andR (andR (andL (andR (andL (andL (andR (andL (andR h))))))))))
  | 5, _, _ => exact Or.inr (andR (andR (andR (andL (andR (andL (andL (andR (andL (andR h))))))))))
  | 6, _, _ => exact Or.inr (andL (andL (andL (andR (andR (andL (andL (andR (andL (andR h))))))))))
  | 7, _, _ => exact Or.inr (andR (andL (andL (andR (andR (andL (andL (andR (andL (andR h))))))))))
  | 8, _, q => exact absurd rfl q
  | 9, _, _ => exact Or.inl (andR (andL (andL (andR (andL (andR (andL (andR (andL (andR h))))))))))
  | 10, _, _ => exact Or.inl (andL (andR (andL (andR (andR (andR (andL (andR (andL (andR h))))))))))
  | 11, _, _ => exact Or.inl (andR (andL (andR (andR (andL (andL (andR (andR (andL (andR h))))))))))
  | 12, _, _ => exact Or.inl (andR (andR (andR (andR (andR (andR (andL (andR (andR (andL (andR h)))))))))))
  | 13, _, _ => exact Or.inl (andR (andR (andL (andL (andR (andR (andR (andR (andL (andR h))))))))))
  | 14, _, _ => exact Or.inl (andR (andR (andR (andL (andL (andL (andL (andL (andR (andR h))))))))))
  | 15, _, _ => exact Or.inl (andR (andL (andR (andR (andR (andL (andL (andL (andR (andR h))))))))))
  | 16, _, _ => exact Or.inl (andL (andR (andL (andL (andR (andR (andL (andL (andR (andR h))))))))))
  | 17, _, _ => exact Or.inl (andL (andL (andL (andR (andL (andL (andR (andL (andR (andR h))))))))))
  | 18, _, _ => exact Or.inl (andL (andR (andR (andR (andR (andR (andL (andR (andL (andR (andR h)))))))))))
  | 19, _, _ => exact Or.inl (andR (andL (andL (andR (andR (andL (andR (andR (andR (andR h))))))))))
  | 20, _, _ => exact Or.inl (andR (andL (andR (andL (andR (andR (andR (andR (andR (andR h))))))))))
  | n + 21, q, _ => exact absurd q (by unfold nS; omega)
theorem ns7_9 (h : (Jvm.Cond.and given_1 narrow_1).before args s = true) : ∀ j, j < nS → 9 ≠ j → (Cond.not (Cond.eq (tmS 9) (tmS j))).before args s = true ∨ (Cond.not (Cond.eq (tmS j) (tmS 9))).before args s = true := by
  intro j hj hne
  match j, hj, hne with
  | 0, _, _ => exact Or.inr (andR (andL (andL (andL (andL (andR (andL (andR (andL (andR h))))))))))
  | 1, _, _ => exact Or.inr (andL (andR (andL (andL (andL (andR (andL (andR (andL (andR h))))))))))
  | 2, _, _ => exact Or.inr (andR (andR (andL (andL (andL (andR (andL (andR (andL (andR h))))))))))
  | 3, _, _ => exact Or.inr (andL (andL (andR (andL (andL (andR (andL (andR (andL (andR h))))))))))
  | 4, _, _ => exact Or.inr (andR (andL (andR (andL (andL (andR (andL (andR (andL (andR h))))))))))
  | 5, _, _ => exact Or.inr (andL (andR (andR (andL (andL (andR (andL (andR (andL (andR h))))))))))
  | 6, _, _ => exact Or.inr (andR (andR (andR (andL (andL (andR (andL (andR (andL (andR h))))))))))
  | 7, _, _ => exact Or.inr (andL (andL (andL (andR (andL (andR (andL (andR (andL (andR h))))))))))
  | 8, _, _ => exact Or.inr (andR (andL (andL (andR (andL (andR (andL (andR (andL (andR h))))))))))
  | 9, _, q => exact absurd rfl q
  | 10, _, _ => exact Or.inl (andR (andR (andL (andR (andR (andR (andL (andR (andL (andR h))))))))))
  | 11, _, _ => exact Or.inl (andL (andR (andR (andR (andL (andL (andR (andR (andL (andR h))))))))))
  | 12, _, _ => exact Or.inl (andL (andL (andL (andL (andL (andR (andR (andR (andL (andR h))))))))))
  | 13, _, _ => exact Or.inl (andL (andL (andR (andL (andR (andR (andR (andR (andL (andR h))))))))))
  | 14, _, _ => exact Or.inl (andL (andL (andL (andR (andL (andL (andL (andL (andR (andR h))))))))))
  | 15, _, _ => exact Or.inl (andL (andR (andR (andR (andR (andL (andL (andL (andR (andR h))))))))))
  | 16, _, _ => exact Or.inl (andR (andR (andL (andL (andR (andR (andL (andL (andR (andR h))))))))))
  | 17, _, _ => exact Or.inl (andR (andL (andL (andR (andL (andL (andR (andL (andR (andR h))))))))))
  | 18, _, _ => exact Or.inl (andR (andR (andR (andR (andR (andR (andL (andR (andL (andR (andR h)))))))))))
  | 19, _, _ => exact Or.inl (andL (andR (andL (andR (andR (andL (andR (andR (andR (andR h))))))))))
  | 20, _, _ => exact Or.inl (andL (andR (andR (andL (andR (andR (andR (andR (andR (andR h))))))))))
  | n + 21, q, _ => exact absurd q (by unfold nS; omega)
theorem ns7_10 (h : (Jvm.Cond.and given_1 narrow_1).before args s = true) : ∀ j, j < nS → 10 ≠ j → (Cond.not (Cond.eq (tmS 10) (tmS j))).before args s = true ∨ (Cond.not (Cond.eq (tmS j) (tmS 10))).before args s = true := by
  intro j hj hne
  match j, hj, hne with
  | 0, _, _ => exact Or.inr (andL (andR (andL (andL (andR (andR (andL (andR (andL (andR h))))))))))
  | 1, _, _ => exact Or.inr (andR (andR (andL (andL (andR (andR (andL (andR (andL (andR h))))))))))
  | 2, _, _ => exact Or.inr (andL (andL (andR (andL (andR (andR (andL (andR (andL (andR h))))))))))
  | 3, _, _ => exact Or.inr (andR (andL (andR (andL (andR (andR (andL (andR (andL (andR h))))))))))
  | 4, _, _ => exact Or.inr (andL (andR (andR (andL (andR (andR (andL (andR (andL (andR h))))))))))
  | 5, _, _ => exact Or.inr (andR (andR (andR (andL (andR (andR (andL (andR (andL (andR h))))))))))
  | 6, _, _ => exact Or.inr (andL (andL (andL (andR (andR (andR (andL (andR (andL (andR h))))))))))
  | 7, _, _ => exact Or.inr (andR (andL (andL (andR (andR (andR (andL (andR (andL (andR h))))))))))
  | 8, _, _ => exact Or.inr (andL (andR (andL (andR (andR (andR (andL (andR (andL (andR h))))))))))
  | 9, _, _ => exact Or.inr (andR (andR (andL (andR (andR (andR (andL (andR (andL (andR h))))))))))
  | 10, _, q => exact absurd rfl q
  | 11, _, _ => exact Or.inl (andL (andR (andR (andR (andR (andL (andL (andR (andR (andL (andR h)))))))))))
  | 12, _, _ => exact Or.inl (andR (andL (andL (andL (andL (andR (andR (andR (andL (andR h))))))))))
  | 13, _, _ => exact Or.inl (andR (andL (andR (andL (andR (andR (andR (andR (andL (andR h))))))))))
  | 14, _, _ => exact Or.inl (andR (andL (andL (andR (andL (andL (andL (andL (andR (andR h))))))))))
  | 15, _, _ => exact Or.inl (andL (andR (andR (andR (andR (andR (andL (andL (andL (andR (andR h)))))))))))
  | 16, _, _ => exact Or.inl (andL (andL (andR (andL (andR (andR (andL (andL (andR (andR h))))))))))
  | 17, _, _ => exact Or.inl (andL (andR (andL (andR (andL (andL (andR (andL (andR (andR h))))))))))
  | 18, _, _ => exact Or.inl (andL (andL (andL (andL (andL (andR (andR (andL (andR (andR h))))))))))
  | 19, _, _ => exact Or.inl (andR (andR (andL (andR (andR (andL (andR (andR (andR (andR h))))))))))
  | 20, _, _ => exact Or.inl (andR (andR (andR (andL (andR (andR (andR (andR (andR (andR h))))))))))
  | n + 21, q, _ => exact absurd q (by unfold nS; omega)
theorem ns7_11 (h : (Jvm.Cond.and given_1 narrow_1).before args s = true) : ∀ j, j < nS → 11 ≠ j → (Cond.not (Cond.eq (tmS 11) (tmS j))).before args s = true ∨ (Cond.not (Cond.eq (tmS j) (tmS 11))).before args s = true := by
  intro j hj hne
  match j, hj, hne with
  | 0, _, _ => exact Or.inr (andR (andL (andR (andL (andL (andL (andR (andR (andL (andR h))))))))))
  | 1, _, _ => exact Or.inr (andL (andR (andR (andL (andL (andL (andR (andR (andL (andR h))))))))))
  | 2, _, _ => exact Or.inr (andR (andR (andR (andL (andL (andL (andR (andR (andL (andR h))))))))))
  | 3, _, _ => exact Or.inr (andL (andL (andL (andR (andL (andL (andR (andR (andL (andR h))))))))))
  | 4, _, _ => exact Or.inr (andR (andL (andL (andR (andL (andL (andR (andR (andL (andR h))))))))))
  | 5, _, _ => exact Or.inr (andL (andR (andL (andR (andL (andL (andR (andR (andL (andR h))))))))))
  | 6, _, _ => exact Or.inr (andR (andR (andL (andR (andL (andL (andR (andR (andL (andR h))))))))))
  | 7, _, _ => exact Or.inr (andL (andL (andR (andR (andL (andL (andR (andR (andL (andR h))))))))))
  | 8, _, _ => exact Or.inr (andR (andL (andR (andR (andL (andL (andR (andR (andL (andR h))))))))))
  | 9, _, _ => exact Or.inr (andL (andR (andR (andR (andL (andL (andR (andR (andL (andR h))))))))))
  | 10, _, _ => exact Or.inr (andL (andR (andR (andR (andR (andL (andL (andR (andR (andL (andR h)))))))))))
  | 11, _, q => exact absurd rfl q
  | 12, _, _ => exact Or.inl (andL (andR (andL (andL (andL (andR (andR (andR (andL (andR h))))))))))
  | 13, _, _ => exact Or.inl (andL (andR (andR (andL (andR (andR (andR (andR (andL (andR h))))))))))
  | 14, _, _ => exact Or.inl (andL (andR (andL (andR (andL (andL (andL (andL (andR (andR h))))))))))
  | 15, _, _ => exact Or.inl (andR (andR (andR (andR (andR (andR (andL (andL (andL (andR (andR h)))))))))))
  | 16, _, _ => exact Or.inl (andR (andL (andR (andL (andR (andR (andL (andL (andR (andR h))))))))))
  | 17, _, _ => exact Or.inl (andR (andR (andL (andR (andL (andL (andR (andL (andR (andR h))))))))))
  | 18, _, _ => exact Or.inl (andR (andL (andL (andL (andL (andR (andR (andL (andR (andR h))))))))))
  | 19, _, _ => exact Or.inl (andL (andL (andR (andR (andR (andL (andR (andR (andR (andR h))))))))))
  | 20, _, _ => exact Or.inl (andL (andL (andL (andR (andR (andR (andR (andR (andR (andR h))))))))))
  | n + 21, q, _ => exact absurd q (by unfold nS; omega)
theorem ns7_12 (h : (Jvm.Cond.and given_1 narrow_1).before args s = true) : ∀ j, j < nS → 12 ≠ j → (Cond.not (Cond.eq (tmS 12) (tmS j))).before args s = true ∨ (Cond.not (Cond.eq (tmS j) (tmS 12))).before args s = true := by
  intro j hj hne
  match j, hj, hne with
  | 0, _, _ => exact Or.inr (andL (andL (andL (andR (andR (andL (andR (andR (andL (andR h))))))))))
  | 1, _, _ => exact Or.inr (andR (andL (andL (andR (andR (andL (andR (andR (andL (andR h))))))))))
  | 2, _, _ => exact Or.inr (andL (andR (andL (andR (andR (andL (andR (andR (andL (andR h))))))))))
  | 3, _, _ => exact Or.inr (andR (andR (andL (andR (andR (andL (andR (andR (andL (andR h))))))))))
  | 4, _, _ => exact Or.inr (andL (andL (andR (andR (andR (andL (andR (andR (andL (andR h))))))))))
  | 5, _, _ => exact Or.inr (andR (andL (andR (andR (andR (andL (andR (andR (andL (andR h))))))))))
  | 6, _, _ => exact Or.inr (andL (andR (andR (andR (andR (andL (andR (andR (andL (andR h))))))))))
  | 7, _, _ => exact Or.inr (andL (andR (andR (andR (andR (andR (andL (andR (andR (andL (andR h)))))))))))
  | 8, _, _ => exact Or.inr (andR (andR (andR (andR (andR (andR (andL (andR (andR (andL (andR h)))))))))))
  | 9, _, _ => exact Or.inr (andL (andL (andL (andL (andL (andR (andR (andR (andL (andR h))))))))))
  | 10, _, _ => exact Or.inr (andR (andL (andL (andL (andL (andR (andR (andR (andL (andR h))))))))))
  | 11, _, _ => exact Or.inr (andL (andR (andL (andL (andL (andR (andR (andR (andL (andR h))))))))))
  | 12, _, q => exact absurd rfl q
  | 13, _, _ => exact Or.inl (andR (andR (andR (andL (andR (andR (andR (andR (andL (andR h))))))))))
  | 14, _, _ => exact Or.inl (andR (andR (andL (andR (andL (andL (andL (andL (andR (andR h))))))))))
  | 15, _, _ => exact Or.inl (andL (andL (andL (andL (andL (andR (andL (andL (andR (andR h))))))))))
  | 16, _, _ => exact Or.inl (andL (andR (andR (andL (andR (andR (andL (andL (andR (andR h))))))))))
  | 17, _, _ => exact Or.inl (andL (andL (andR (andR (andL (andL (andR (andL (andR (andR h))))))))))
  | 18, _, _ => exact Or.inl (andL (andR (andL (andL (andL (andR (andR (andL (andR (andR h))))))))))
  | 19, _, _ => exact Or.inl (andR (andL (andR (andR (andR (andL (andR (andR (andR (andR h))))))))))
  | 20, _, _ => exact Or.inl (andR (andL (andL (andR (andR (andR (andR (andR (andR (andR h))))))))))
  | n + 21, q, _ => exact absurd q (by unfold nS; omega)
theorem ns7_13 (h : (Jvm.Cond.and given_1 narrow_1).before args s = true) : ∀ j, j < nS → 13 ≠ j → (Cond.not (Cond.eq (tmS 13) (tmS j))).before args s = true ∨ (Cond.not (Cond.eq (tmS j) (tmS 13))).before args s = true := by
  intro j hj hne
  match j, hj, hne with
  | 0, _, _ => exact Or.inr (andL (andL (andR (andR (andL (andR (andR (andR (andL (andR h))))))))))
  | 1, _, _ => exact Or.inr (andR (andL (andR (andR (andL (andR (andR (andR (andL (andR h))))))))))
  | 2, _, _ => exact Or.inr (andL (andR (andR (andR (andL (andR (andR (andR (andL (andR h))))))))))
  | 3, _, _ => exact Or.inr (andL (andR (andR (andR (andR (andL (andR (andR (andR (andL (andR h)))))))))))
  | 4, _, _ => exact Or.inr (andR (andR (andR (andR (andR (andL (andR (andR (andR (andL (andR h)))))))))))
  | 5, _, _ => exact Or.inr (andL (andL (andL (andL (andR (andR (andR (andR (andL (andR h))))))))))
  | 6, _, _ => exact Or.inr (andR (andL (andL (andL (andR (andR (andR (andR (andL (andR h))))))))))
  | 7, _, _ => exact Or.inr (andL (andR (andL (andL (andR (andR (andR (andR (andL (andR h))))))))))
  | 8, _, _ => exact Or.inr (andR (andR (andL (andL (andR (andR (andR (andR (andL (andR h))))))))))
  | 9, _, _ => exact Or.inr (andL (andL (andR (andL (andR (andR (andR (andR (andL (andR h))))))))))
  | 10, _, _ => exact Or.inr (andR (andL (andR (andL (andR (andR (andR (andR (andL (andR h))))))))))
  | 11, _, _ => exact Or.inr (andL (andR (andR (andL (andR (andR (andR (andR (andL (andR h))))))))))
  | 12, _, _ => exact Or.inr (andR (andR (andR (andL (andR (andR (andR (andR (andL (andR h))))))))))
  | 13, _, q => exact absurd rfl q
  | 14, _, _ => exact Or.inl (andL (andL (andR (andR (andL (andL (andL (andL (andR (andR h))))))))))
  | 15, _, _ => exact Or.inl (andR (andL (andL (andL (andL (andR (andL (andL (andR (andR h))))))))))
  | 16, _, _ => exact Or.inl (andR (andR (andR (andL (andR (andR (andL (andL (andR (andR h))))))))))
  | 17, _, _ => exact Or.inl (andR (andL (andR (andR (andL (andL (andR (andL (andR (andR h))))))))))
  | 18, _, _ => exact Or.inl (andR (andR (andL (andL (andL (andR (andR (andL (andR (andR h))))))))))
  | 19, _, _ => exact Or.inl (andL (andR (andR (andR (andR (andL (andR (andR (andR (andR h))))))))))
  | 20, _, _ => exact Or.inl (andL (andR (andL (andR (andR (andR (andR (andR (andR (andR h))))))))))
  | n + 21, q, _ => exact absurd q (by unfold nS; omega)
theorem ns7_14 (h : (Jvm.Cond.and given_1 narrow_1).before args s = true) : ∀ j, j < nS → 14 ≠ j → (Cond.not (Cond.eq (tmS 14) (tmS j))).before args s = true ∨ (Cond.not (Cond.eq (tmS j) (tmS 14))).before args s = true := by
  intro j hj hne
  match j, hj, hne with
  | 0, _, _ => exact Or.inr (andR (andR (andR (andR (andR (andR (andR (andR (andR (andL (andR h)))))))))))
  | 1, _, _ => exact Or.inr (andL (andL (andL (andL (andL (andL (andL (andL (andR (andR h))))))))))
  | 2, _, _ => exact Or.inr (andR (andL (andL (andL (andL (andL (andL (andL (andR (andR h))))))))))
  | 3, _, _ => exact Or.inr (andL (andR (andL (andL (andL (andL (andL (andL (andR (andR h))))))))))
  | 4, _, _ => exact Or.inr (andR (andR (andL (andL (andL (andL (andL (andL (andR (andR h))))))))))
  | 5, _, _ => exact Or.inr (andL (andL (andR (andL (andL (andL (andL (andL (andR (andR h))))))))))
  | 6, _, _ => exact Or.inr (andR (andL (andR (andL (andL (andL (andL (andL (andR (andR h))))))))))
  | 7, _, _ => exact Or.inr (andL (andR (andR (andL (andL (andL (andL (andL (andR (andR h))))))))))
  | 8, _, _ => exact Or.inr (andR (andR (andR (andL (andL (andL (andL (andL (andR (andR h))))))))))
  | 9, _, _ => exact Or.inr (andL (andL (andL (andR (andL (andL (andL (andL (andR (andR h))))))))))
  | 10, _, _ => exact Or.inr (andR (andL (andL (andR (andL (andL (andL (andL (andR (andR h))))))))))
  | 11, _, _ => exact Or.inr (andL (andR (andL (andR (andL (andL (andL (andL (andR (andR h))))))))))
  | 12, _, _ => exact Or.inr (andR (andR (andL (andR (andL (andL (andL (andL (andR (andR h))))))))))
  | 13, _, _ => exact Or.inr (andL (andL (andR (andR (andL (andL (andL (andL (andR (andR h))))))))))
  | 14, _, q => exact absurd rfl q
  | 15, _, _ => exact Or.inl (andL (andR (andL (andL (andL (andR (andL (andL (andR (andR h))))))))))
  | 16, _, _ => exact Or.inl (andL (andL (andL (andR (andR (andR (andL (andL (andR (andR h))))))))))
  | 17, _, _ => exact Or.inl (andL (andR (andR (andR (andL (andL (andR (andL (andR (andR h))))))))))
  | 18, _, _ => exact Or.inl (andL (andL (andR (andL (andL (andR (andR (andL (andR (andR h))))))))))
  | 19, _, _ => exact Or.inl (andL (andR (andR (andR (andR (andR (andL (andR (andR (andR (andR h)))))))))))
  | 20, _, _ => exact Or.inl (andR (andR (andL (andR (andR (andR (andR (andR (andR (andR h))))))))))
  | n + 21, q, _ => exact absurd q (by unfold nS; omega)
theorem ns7_15 (h : (Jvm.Cond.and given_1 narrow_1).before args s = true) : ∀ j, j < nS → 15 ≠ j → (Cond.not (Cond.eq (tmS 15) (tmS j))).before args s = true ∨ (Cond.not (Cond.eq (tmS j) (tmS 15))).before args s = true := by
  intro j hj hne
  match j, hj, hne with
  | 0, _, _ => exact Or.inr (andR (andL (andR (andL (andR (andL (andL (andL (andR (andR h))))))))))
  | 1, _, _ => exact Or.inr (andL (andR (andR (andL (andR (andL (andL (andL (andR (andR h))))))))))
  | 2, _, _ => exact Or.inr (andR (andR (andR (andL (andR (andL (andL (andL (andR (andR h))))))))))
  | 3, _, _ => exact Or.inr (andL (andL (andL (andR (andR (andL (andL (andL (andR (andR h))))))))))
  | 4, _, _ => exact Or.inr (andR (andL (andL (andR (andR (andL (andL (andL (andR (andR h))))))))))
  | 5, _, _ => exact Or.inr (andL (andR (andL (andR (andR (andL (andL (andL (andR (andR h))))))))))
  | 6, _, _ => exact Or.inr (andR (andR (andL (andR (andR (andL (andL (andL (andR (andR h))))))))))
  | 7, _, _ => exact Or.inr (andL (andL (andR (andR (andR (andL (andL (andL (andR (andR h))))))))))
  | 8, _, _ => exact Or.inr (andR (andL (andR (andR (andR (andL (andL (andL (andR (andR h))))))))))
  | 9, _, _ => exact Or.inr (andL (andR (andR (andR (andR (andL (andL (andL (andR (andR h))))))))))
  | 10, _, _ => exact Or.inr (andL (andR (andR (andR (andR (andR (andL (andL (andL (andR (andR h)))))))))))
  | 11, _, _ => exact Or.inr (andR (andR (andR (andR (andR (andR (andL (andL (andL (andR (andR h)))))))))))
  | 12, _, _ => exact Or.inr (andL (andL (andL (andL (andL (andR (andL (andL (andR (andR h))))))))))
  | 13, _, _ => exact Or.inr (andR (andL (andL (andL (andL (andR (andL (andL (andR (andR h))))))))))
  | 14, _, _ => exact Or.inr (andL (andR (andL (andL (andL (andR (andL (andL (andR (andR h))))))))))
  | 15, _, q => exact absurd rfl q
  | 16, _, _ => exact Or.inl (andR (andL (andL (andR (andR (andR (andL (andL (andR (andR h))))))))))
  | 17, _, _ => exact Or.inl (andR (andR (andR (andR (andL (andL (andR (andL (andR (andR h))))))))))
  | 18, _, _ => exact Or.inl (andR (andL (andR (andL (andL (andR (andR (andL (andR (andR h))))))))))
  | 19, _, _ => exact Or.inl (andR (andR (andR (andR (andR (andR (andL (andR (andR (andR (andR h)))))))))))
  | 20, _, _ => exact Or.inl (andL (andL (andR (andR (andR (andR (andR (andR (andR (andR h))))))))))
  | n + 21, q, _ => exact absurd q (by unfold nS; omega)
theorem ns7_16 (h : (Jvm.Cond.and given_1 narrow_1).before args s = true) : ∀ j, j < nS → 16 ≠ j → (Cond.not (Cond.eq (tmS 16) (tmS j))).before args s = true ∨ (Cond.not (Cond.eq (tmS j) (tmS 16))).before args s = true := by
  intro j hj hne
  match j, hj, hne with
  | 0, _, _ => exact Or.inr (andR (andR (andL (andR (andL (andR (andL (andL (andR (andR h))))))))))
  | 1, _, _ => exact Or.inr (andL (andL (andR (andR (andL (andR (andL (andL (andR (andR h))))))))))
  | 2, _, _ => exact Or.inr (andR (andL (andR (andR (andL (andR (andL (andL (andR (andR h))))))))))
  | 3, _, _ => exact Or.inr (andL (andR (andR (andR (andL (andR (andL (andL (andR (andR h))))))))))
  | 4, _, _ => exact Or.inr (andL (andR (andR (andR (andR (andL (andR (andL (andL (andR (andR h)))))))))))
  | 5, _, _ => exact Or.inr (andR (andR (andR (andR (andR (andL (andR (andL (andL (andR (andR h)))))))))))
  | 6, _, _ => exact Or.inr (andL (andL (andL (andL (andR (andR (andL (andL (andR (andR h))))))))))
  | 7, _, _ => exact Or.inr (andR (andL (andL (andL (andR (andR (andL (andL (andR (andR h))))))))))
  | 8, _, _ => exact Or.inr (andL (andR (andL (andL (andR (andR (andL (andL (andR (andR h))))))))))
  | 9, _, _ => exact Or.inr (andR (andR (andL (andL (andR (andR (andL (andL (andR (andR h))))))))))
  | 10, _, _ => exact Or.inr (andL (andL (andR (andL (andR (andR (andL (andL (andR (andR h))))))))))
  | 11, _, _ => exact Or.inr (andR (andL (andR (andL (andR (andR (andL (andL (andR (andR h))))))))))
  | 12, _, _ => exact Or.inr (andL (andR (andR (andL (andR (andR (andL (andL (andR (andR h))))))))))
  | 13, _, _ => exact Or.inr (andR (andR (andR (andL (andR (andR (andL (andL (andR (andR h))))))))))
  | 14, _, _ => exact Or.inr (andL (andL (andL (andR (andR (andR (andL (andL (andR (andR h))))))))))
  | 15, _, _ => exact Or.inr (andR (andL (andL (andR (andR (andR (andL (andL (andR (andR h))))))))))
  | 16, _, q => exact absurd rfl q
  | 17, _, _ => exact Or.inl (andL (andL (andL (andL (andR (andL (andR (andL (andR (andR h))))))))))
  | 18, _, _ => exact Or.inl (andL (andR (andR (andL (andL (andR (andR (andL (andR (andR h))))))))))
  | 19, _, _ => exact Or.inl (andL (andL (andL (andL (andL (andR (andR (andR (andR (andR h))))))))))
  | 20, _, _ => exact Or.inl (andR (andL (andR (andR (andR (andR (andR (andR (andR (andR h))))))))))
  | n + 21, q, _ => exact absurd q (by unfold nS; omega)
theorem ns7_17 (h : (Jvm.Cond.and given_1 narrow_1).before args s = true) : ∀ j, j < nS → 17 ≠ j → (Cond.not (Cond.eq (tmS 17) (tmS j))).before args s = true ∨ (Cond.not (Cond.eq (tmS j) (tmS 17))).before args s = true := by
  intro j hj hne
  match j, hj, hne with
  | 0, _, _ => exact Or.inr (andL (andL (andL (andL (andL (andL (andR (andL (andR (andR h))))))))))
  | 1, _, _ => exact Or.inr (andR (andL (andL (andL (andL (andL (andR (andL (andR (andR h))))))))))
  | 2, _, _ => exact Or.inr (andL (andR (andL (andL (andL (andL (andR (andL (andR (andR h))))))))))
  | 3, _, _ => exact Or.inr (andR (andR (andL (andL (andL (andL (andR (andL (andR (andR h))))))))))
  | 4, _, _ => exact Or.inr (andL (andL (andR (andL (andL (andL (andR (andL (andR (andR h))))))))))
  | 5, _, _ => exact Or.inr (andR (andL (andR (andL (andL (andL (andR (andL (andR (andR h))))))))))
  | 6, _, _ => exact Or.inr (andL (andR (andR (andL (andL (andL (andR (andL (andR (andR h))))))))))
  | 7, _, _ => exact Or.inr (andR (andR (andR (andL (andL (andL (andR (andL (andR (andR h))))))))))
  | 8, _, _ => exact Or.inr (andL (andL (andL (andR (andL (andL (andR (andL (andR (andR h))))))))))
  | 9, _, _ => exact Or.inr (andR (andL (andL (andR (andL (andL (andR (andL (andR (andR h))))))))))
  | 10, _, _ => exact Or.inr (andL (andR (andL (andR (andL (andL (andR (andL (andR (andR h))))))))))
  | 11, _, _ => exact Or.inr (andR (andR (andL (andR (andL (andL (andR (andL (andR (andR h))))))))))
  | 12, _, _ => exact Or.inr (andL (andL (andR (andR (andL (andL (andR (andL (andR (andR h))))))))))
  | 13, _, _ => exact Or.inr (andR (andL (andR (andR (andL (andL (andR (andL (andR (andR h))))))))))
  | 14, _, _ => exact Or.inr (andL (andR (andR (andR (andL (andL (andR (andL (andR (andR h))))))))))
  | 15, _, _ => exact Or.inr (andR (andR (andR (andR (andL (andL (andR (andL (andR (andR h))))))))))
  | 16, _, _ => exact Or.inr (andL (andL (andL (andL (andR (andL (andR (andL (andR (andR h))))))))))
  | 17, _, q => exact absurd rfl q
  | 18, _, _ => exact Or.inl (andR (andR (andR (andL (andL (andR (andR (andL (andR (andR h))))))))))
  | 19, _, _ => exact Or.inl (andR (andL (andL (andL (andL (andR (andR (andR (andR (andR h))))))))))
  | 20, _, _ => exact Or.inl (andL (andR (andR (andR (andR (andR (andR (andR (andR (andR h))))))))))
  | n + 21, q, _ => exact absurd q (by unfold nS; omega)
theorem ns7_18 (h : (Jvm.Cond.and given_1 narrow_1).before args s = true) : ∀ j, j < nS → 18 ≠ j → (Cond.not (Cond.eq (tmS 18) (tmS j))).before args s = true ∨ (Cond.not (Cond.eq (tmS j) (tmS 18))).before args s = true := by
  intro j hj hne
  match j, hj, hne with
  | 0, _, _ => exact Or.inr (andR (andR (andR (andL (andR (andL (andR (andL (andR (andR h))))))))))
  | 1, _, _ => exact Or.inr (andL (andL (andL (andR (andR (andL (andR (andL (andR (andR h))))))))))
  | 2, _, _ => exact Or.inr (andR (andL (andL (andR (andR (andL (andR (andL (andR (andR h))))))))))
  | 3, _, _ => exact Or.inr (andL (andR (andL (andR (andR (andL (andR (andL (andR (andR h))))))))))
  | 4, _, _ => exact Or.inr (andR (andR (andL (andR (andR (andL (andR (andL (andR (andR h))))))))))
  | 5, _, _ => exact Or.inr (andL (andL (andR (andR (andR (andL (andR (andL (andR (andR h))))))))))
  | 6, _, _ => exact Or.inr (andR (andL (andR (andR (andR (andL (andR (andL (andR (andR h))))))))))
  | 7, _, _ => exact Or.inr (andL (andR (andR (andR (andR (andL (andR (andL (andR (andR h))))))))))
  | 8, _, _ => exact Or.inr (andL (andR (andR (andR (andR (andR (andL (andR (andL (andR (andR h)))))))))))
  | 9, _, _ => exact Or.inr (andR (andR (andR (andR (andR (andR (andL (andR (andL (andR (andR h)))))))))))
  | 10, _, _ => exact Or.inr (andL (andL (andL (andL (andL (andR (andR (andL (andR (andR h))))))))))
  | 11, _, _ => exact Or.inr (andR (andL (andL (andL (andL (andR (andR (andL (andR (andR h))))))))))
  | 12, _, _ => exact Or.inr (andL (andR (andL (andL (andL (andR (andR (andL (andR (andR h))))))))))
  | 13, _, _ => exact Or.inr (andR (andR (andL (andL (andL (andR (andR (andL (andR (andR h))))))))))
  | 14, _, _ => exact Or.inr (andL (andL (andR (andL (andL (andR (andR (andL (andR (andR h))))))))))
  | 15, _, _ => exact Or.inr (andR (andL (andR (andL (andL (andR (andR (andL (andR (andR h))))))))))
  | 16, _, _ => exact Or.inr (andL (andR (andR (andL (andL (andR (andR (andL (andR (andR h))))))))))
  | 17, _, _ => exact Or.inr (andR (andR (andR (andL (andL (andR (andR (andL (andR (andR h))))))))))
  | 18, _, q => exact absurd rfl q
  | 19, _, _ => exact Or.inl (andL (andR (andL (andL (andL (andR (andR (andR (andR (andR h))))))))))
  | 20, _, _ => exact Or.inl (andL (andR (andR (andR (andR (andR (andR (andR (andR (andR (andR h)))))))))))
  | n + 21, q, _ => exact absurd q (by unfold nS; omega)
theorem ns7_19 (h : (Jvm.Cond.and given_1 narrow_1).before args s = true) : ∀ j, j < nS → 19 ≠ j → (Cond.not (Cond.eq (tmS 19) (tmS j))).before args s = true ∨ (Cond.not (Cond.eq (tmS j) (tmS 19))).before args s = true := by
  intro j hj hne
  match j, hj, hne with
  | 0, _, _ => exact Or.inr (andR (andL (andL (andL (andR (andL (andR (andR (andR (andR h))))))))))
  | 1, _, _ => exact Or.inr (andL (andR (andL (andL (andR (andL (andR (andR (andR (andR h))))))))))
  | 2, _, _ => exact Or.inr (andR (andR (andL (andL (andR (andL (andR (andR (andR (andR h))))))))))
  | 3, _, _ => exact Or.inr (andL (andL (andR (andL (andR (andL (andR (andR (andR (andR h))))))))))
  | 4, _, _ => exact Or.inr (andR (andL (andR (andL (andR (andL (andR (andR (andR (andR h))))))))))
  | 5, _, _ => exact Or.inr (andL (andR (andR (andL (andR (andL (andR (andR (andR (andR h))))))))))
  | 6, _, _ => exact Or.inr (andR (andR (andR (andL (andR (andL (andR (andR (andR (andR h))))))))))
  | 7, _, _ => exact Or.inr (andL (andL (andL (andR (andR (andL (andR (andR (andR (andR h))))))))))
  | 8, _, _ => exact Or.inr (andR (andL (andL (andR (andR (andL (andR (andR (andR (andR h))))))))))
  | 9, _, _ => exact Or.inr (andL (andR (andL (andR (andR (andL (andR (andR (andR (andR h))))))))))
  | 10, _, _ => exact Or.inr (andR (andR (andL (andR (andR (andL (andR (andR (andR (andR h))))))))))
  | 11, _, _ => exact Or.inr (andL (andL (andR (andR (andR (andL (andR (andR (andR (andR h))))))))))
  | 12, _, _ => exact Or.inr (andR (andL (andR (andR (andR (andL (andR (andR (andR (andR h))))))))))
  | 13, _, _ => exact Or.inr (andL (andR (andR (andR (andR (andL (andR (andR (andR (andR h))))))))))
  | 14, _, _ => exact Or.inr (andL (andR (andR (andR (andR (andR (andL (andR (andR (andR (andR h)))))))))))
  | 15, _, _ => exact Or.inr (andR (andR (andR (andR (andR (andR (andL (andR (andR (andR (andR h)))))))))))
  | 16, _, _ => exact Or.inr (andL (andL (andL (andL (andL (andR (andR (andR (andR (andR h))))))))))
  | 17, _, _ => exact Or.inr (andR (andL (andL (andL (andL (andR (andR (andR (andR (andR h))))))))))
  | 18, _, _ => exact Or.inr (andL (andR (andL (andL (andL (andR (andR (andR (andR (andR h))))))))))
  | 19, _, q => exact absurd rfl q
  | 20, _, _ => exact Or.inl (andR (andR (andR (andR (andR (andR (andR (andR (andR (andR (andR h)))))))))))
  | n + 21, q, _ => exact absurd q (by unfold nS; omega)
theorem ns7_20 (h : (Jvm.Cond.and given_1 narrow_1).before args s = true) : ∀ j, j < nS → 20 ≠ j → (Cond.not (Cond.eq (tmS 20) (tmS j))).before args s = true ∨ (Cond.not (Cond.eq (tmS j) (tmS 20))).before args s = true := by
  intro j hj hne
  match j, hj, hne with
  | 0, _, _ => exact Or.inr (andL (andR (andR (andR (andL (andR (andR (andR (andR (andR h))))))))))
  | 1, _, _ => exact Or.inr (andL (andR (andR (andR (andR (andL (andR (andR (andR (andR (andR h)))))))))))
  | 2, _, _ => exact Or.inr (andR (andR (andR (andR (andR (andL (andR (andR (andR (andR (andR h)))))))))))
  | 3, _, _ => exact Or.inr (andL (andL (andL (andL (andR (andR (andR (andR (andR (andR h))))))))))
  | 4, _, _ => exact Or.inr (andR (andL (andL (andL (andR (andR (andR (andR (andR (andR h))))))))))
  | 5, _, _ => exact Or.inr (andL (andR (andL (andL (andR (andR (andR (andR (andR (andR h))))))))))
  | 6, _, _ => exact Or.inr (andR (andR (andL (andL (andR (andR (andR (andR (andR (andR h))))))))))
  | 7, _, _ => exact Or.inr (andL (andL (andR (andL (andR (andR (andR (andR (andR (andR h))))))))))
  | 8, _, _ => exact Or.inr (andR (andL (andR (andL (andR (andR (andR (andR (andR (andR h))))))))))
  | 9, _, _ => exact Or.inr (andL (andR (andR (andL (andR (andR (andR (andR (andR (andR h))))))))))
  | 10, _, _ => exact Or.inr (andR (andR (andR (andL (andR (andR (andR (andR (andR (andR h))))))))))
  | 11, _, _ => exact Or.inr (andL (andL (andL (andR (andR (andR (andR (andR (andR (andR h))))))))))
  | 12, _, _ => exact Or.inr (andR (andL (andL (andR (andR (andR (andR (andR (andR (andR h))))))))))
  | 13, _, _ => exact Or.inr (andL (andR (andL (andR (andR (andR (andR (andR (andR (andR h))))))))))
  | 14, _, _ => exact Or.inr (andR (andR (andL (andR (andR (andR (andR (andR (andR (andR h))))))))))
  | 15, _, _ => exact Or.inr (andL (andL (andR (andR (andR (andR (andR (andR (andR (andR h))))))))))
  | 16, _, _ => exact Or.inr (andR (andL (andR (andR (andR (andR (andR (andR (andR (andR h))))))))))
  | 17, _, _ => exact Or.inr (andL (andR (andR (andR (andR (andR (andR (andR (andR (andR h))))))))))
  | 18, _, _ => exact Or.inr (andL (andR (andR (andR (andR (andR (andR (andR (andR (andR (andR h)))))))))))
  | 19, _, _ => exact Or.inr (andR (andR (andR (andR (andR (andR (andR (andR (andR (andR (andR h)))))))))))
  | 20, _, q => exact absurd rfl q
  | n + 21, q, _ => exact absurd q (by unfold nS; omega)
theorem ns7 (h : (Jvm.Cond.and given_1 narrow_1).before args s = true) : ∀ i, i < nS → ∀ j, j < nS → i ≠ j → (Cond.not (Cond.eq (tmS i) (tmS j))).before args s = true ∨ (Cond.not (Cond.eq (tmS j) (tmS i))).before args s = true := by
  intro i hi
  match i, hi with
  | 0, _ => exact ns7_0 h
  | 1, _ => exact ns7_1 h
  | 2, _ => exact ns7_2 h
  | 3, _ => exact ns7_3 h
  | 4, _ => exact ns7_4 h
  | 5, _ => exact ns7_5 h
  | 6, _ => exact ns7_6 h
  | 7, _ => exact ns7_7 h
  | 8, _ => exact ns7_8 h
  | 9, _ => exact ns7_9 h
  | 10, _ => exact ns7_10 h
  | 11, _ => exact ns7_11 h
  | 12, _ => exact ns7_12 h
  | 13, _ => exact ns7_13 h
  | 14, _ => exact ns7_14 h
  | 15, _ => exact ns7_15 h
  | 16, _ => exact ns7_16 h
  | 17, _ => exact ns7_17 h
  | 18, _ => exact ns7_18 h
  | 19, _ => exact ns7_19 h
  | 20, _ => exact ns7_20 h
  | n + 21, q => exact absurd q (by unfold nS; omega)
theorem ns8 (h : (Jvm.Cond.and given_1 narrow_1).before args s = true) : (Cond.eq (.static "java/lang/String" "COMPACT_STRINGS" "Z") (.int 1)).before args s = true := (andL (andR (andL (andL (andL (andL (andL (andL (andL (andR h))))))))))
theorem ns9 (h : (Jvm.Cond.and given_1 narrow_1).before args s = true) : (Cond.isRef (.static "jdk/internal/util/Preconditions" "SIOOBE_FORMATTER" "Ljava/util/function/BiFunction;")).before args s = true := (andR (andR (andL (andL (andL (andL (andL (andL (andL (andR h))))))))))
end NRW
theorem mem_lw {w : Cond} (h : w ∈ tables_1) : w ∈ lw_tbl := List.mem_append_right _ h
def eadS (a a2 adK adV : Nat → Nat) (b : Nat) (c : Nat) : Nat := if c < 115 then a c else if c < 133 then a2 (c - 115) else if c = 200 then b else if c % 2 = 1 then adK ((c - 133) / 2) else adV ((c - 134) / 2)
def eaCS (cA cA2 : Nat → ClassId) (c : Nat) : ClassId := if c < 115 then cA c else cA2 (c - 115)
def EE (l : Launch) (D : va_G) (a a2 adK adV : Nat → Nat) (b sz : Nat) (cA cA2 : Nat → ClassId) : EN := (l, D, eadS a a2 adK adV b, eaCS cA cA2, tBC cA ++ tMod cA2, fun q => sz ≤ q)
section STA
variable {l : Launch} {D : va_G} {a a2 adK adV : Nat → Nat} {b sz : Nat} {cA cA2 : Nat → ClassId} {H : Heap}
theorem arrV_congr {cA : ClassId} {n : Nat} {f g : Nat → Value} (h : ∀ j, j < n → f j = g j) : arrV cA n f = arrV cA n g := by
  unfold arrV; congr 1
  apply Array.ext
  · simp
  · intro i h1 h2
    simp only [Array.getElem_ofFn]
    exact h i (by simpa using h1)
theorem sc_0 (h : va_P D cls (lBC a cA ++ lMod a2 cA2) H) : va_at D cls (ead (EE l D a a2 adK adV b sz cA cA2) 0, ce (EE l D a a2 adK adV b sz cA cA2) σ0 0) H := by
  exact h 0 _ rfl
theorem sc_1 (h : va_P D cls (lBC a cA ++ lMod a2 cA2) H) : va_at D cls (ead (EE l D a a2 adK adV b sz cA cA2) 1, ce (EE l D a a2 adK adV b sz cA cA2) σ0 1) H := by
  exact h 1 _ rfl
theorem sc_2 (h : va_P D cls (lBC a cA ++ lMod a2 cA2) H) : va_at D cls (ead (EE l D a a2 adK adV b sz cA cA2) 2, ce (EE l D a a2 adK adV b sz cA cA2) σ0 2) H := by
  exact h 2 _ rfl
theorem sc_3 (h : va_P D cls (lBC a cA ++ lMod a2 cA2) H) : va_at D cls (ead (EE l D a a2 adK adV b sz cA cA2) 3, ce (EE l D a a2 adK adV b sz cA cA2) σ0 3) H := by
  exact h 3 _ rfl
theorem sc_4 (h : va_P D cls (lBC a cA ++ lMod a2 cA2) H) : va_at D cls (ead (EE l D a a2 adK adV b sz cA cA2) 4, ce (EE l D a a2 adK adV b sz cA cA2) σ0 4) H := by
  exact h 4 _ rfl
theorem sc_5 (h : va_P D cls (lBC a cA ++ lMod a2 cA2) H) : va_at D cls (ead (EE l D a a2 adK adV b sz cA cA2) 5, ce (EE l D a a2 adK adV b sz cA cA2) σ0 5) H := by
  exact h 5 _ rfl
theorem sc_6 (h : va_P D cls (lBC a cA ++ lMod a2 cA2) H) : va_at D cls (ead (EE l D a a2 adK adV b sz cA cA2) 6, ce (EE l D a a2 adK adV b sz cA cA2) σ0 6) H := by
  exact h 6 _ rfl
theorem sc_7 (h : va_P D cls (lBC a cA ++ lMod a2 cA2) H) : va_at D cls (ead (EE l D a a2 adK adV b sz cA cA2) 7, ce (EE l D a a2 adK adV b sz cA cA2) σ0 7) H := by
  exact h 7 _ rfl
theorem sc_8 (h : va_P D cls (lBC a cA ++ lMod a2 cA2) H) : va_at D cls (ead (EE l D a a2 adK adV b sz cA cA2) 8, ce (EE l D a a2 adK adV b sz cA cA2) σ0 8) H := by
  exact h 8 _ rfl
theorem sc_9 (h : va_P D cls (lBC a cA ++ lMod a2 cA2) H) : va_at D cls (ead (EE l D a a2 adK adV b sz cA cA2) 9, ce (EE l D a a2 adK adV b sz cA cA2) σ0 9) H := by
  exact h 9 _ rfl
theorem sc_10 (h : va_P D cls (lBC a cA ++ lMod a2 cA2) H) : va_at D cls (ead (EE l D a a2 adK adV b sz cA cA2) 10, ce (EE l D a a2 adK adV b sz cA cA2) σ0 10) H := by
  exact h 10 _ rfl
theorem sc_11 (h : va_P D cls (lBC a cA ++ lMod a2 cA2) H) : va_at D cls (ead (EE l D a a2 adK adV b sz cA cA2) 11, ce (EE l D a a2 adK adV b sz cA cA2) σ0 11) H := by
  exact h 11 _ rfl
theorem sc_12 (h : va_P D cls (lBC a cA ++ lMod a2 cA2) H) : va_at D cls (ead (EE l D a a2 adK adV b sz cA cA2) 12, ce (EE l D a a2 adK adV b sz cA cA2) σ0 12) H := by
  exact h 12 _ rfl
theorem sc_13 (h : va_P D cls (lBC a cA ++ lMod a2 cA2) H) : va_at D cls (ead (EE l D a a2 adK adV b sz cA cA2) 13, ce (EE l D a a2 adK adV b sz cA cA2) σ0 13) H := by
  exact h 13 _ rfl
theorem sc_14 (h : va_P D cls (lBC a cA ++ lMod a2 cA2) H) : va_at D cls (ead (EE l D a a2 adK adV b sz cA cA2) 14, ce (EE l D a a2 adK adV b sz cA cA2) σ0 14) H := by
  exact h 14 _ rfl
theorem sc_15 (h : va_P D cls (lBC a cA ++ lMod a2 cA2) H) : va_at D cls (ead (EE l D a a2 adK adV b sz cA cA2) 15, ce (EE l D a a2 adK adV b sz cA cA2) σ0 15) H := by
  exact h 15 _ rfl
theorem sc_16 (h : va_P D cls (lBC a cA ++ lMod a2 cA2) H) : va_at D cls (ead (EE l D a a2 adK adV b sz cA cA2) 16, ce (EE l D a a2 adK adV b sz cA cA2) σ0 16) H := by
  exact h 16 _ rfl
theorem sc_17 (h : va_P D cls (lBC a cA ++ lMod a2 cA2) H) : va_at D cls (ead (EE l D a a2 adK adV b sz cA cA2) 17, ce (EE l D a a2 adK adV b sz cA cA2) σ0 17) H := by
  exact h 17 _ rfl
theorem sc_18 (h : va_P D cls (lBC a cA ++ lMod a2 cA2) H) : va_at D cls (ead (EE l D a a2 adK adV b sz cA cA2) 18, ce (EE l D a a2 adK adV b sz cA cA2) σ0 18) H := by
  exact h 18 _ rfl
theorem sc_19 (h : va_P D cls (lBC a cA ++ lMod a2 cA2) H) : va_at D cls (ead (EE l D a a2 adK adV b sz cA cA2) 19, ce (EE l D a a2 adK adV b sz cA cA2) σ0 19) H := by
  exact h 19 _ rfl
theorem sc_20 (h : va_P D cls (lBC a cA ++ lMod a2 cA2) H) : va_at D cls (ead (EE l D a a2 adK adV b sz cA cA2) 20, ce (EE l D a a2 adK adV b sz cA cA2) σ0 20) H := by
  exact h 20 _ rfl
theorem sc_21 (h : va_P D cls (lBC a cA ++ lMod a2 cA2) H) : va_at D cls (ead (EE l D a a2 adK adV b sz cA cA2) 21, ce (EE l D a a2 adK adV b sz cA cA2) σ0 21) H := by
  exact h 21 _ rfl
theorem sc_22 (h : va_P D cls (lBC a cA ++ lMod a2 cA2) H) : va_at D cls (ead (EE l D a a2 adK adV b sz cA cA2) 22, ce (EE l D a a2 adK adV b sz cA cA2) σ0 22) H := by
  exact h 22 _ rfl
theorem sc_23 (h : va_P D cls (lBC a cA ++ lMod a2 cA2) H) : va_at D cls (ead (EE l D a a2 adK adV b sz cA cA2) 23, ce (EE l D a a2 adK adV b sz cA cA2) σ0 23) H := by
  exact h 23 _ rfl
theorem sc_24 (h : va_P D cls (lBC a cA ++ lMod a2 cA2) H) : va_at D cls (ead (EE l D a a2 adK adV b sz cA cA2) 24, ce (EE l D a a2 adK adV b sz cA cA2) σ0 24) H := by
  exact h 24 _ rfl
theorem sc_25 (h : va_P D cls (lBC a cA ++ lMod a2 cA2) H) : va_at D cls (ead (EE l D a a2 adK adV b sz cA cA2) 25, ce (EE l D a a2 adK adV b sz cA cA2) σ0 25) H := by
  exact h 25 _ rfl
theorem sc_26 (h : va_P D cls (lBC a cA ++ lMod a2 cA2) H) : va_at D cls (ead (EE l D a a2 adK adV b sz cA cA2) 26, ce (EE l D a a2 adK adV b sz cA cA2) σ0 26) H := by
  exact h 26 _ rfl
theorem sc_27 (h : va_P D cls (lBC a cA ++ lMod a2 cA2) H) : va_at D cls (ead (EE l D a a2 adK adV b sz cA cA2) 27, ce (EE l D a a2 adK adV b sz cA cA2) σ0 27) H := by
  exact h 27 _ rfl
theorem sc_28 (h : va_P D cls (lBC a cA ++ lMod a2 cA2) H) : va_at D cls (ead (EE l D a a2 adK adV b sz cA cA2) 28, ce (EE l D a a2 adK adV b sz cA cA2) σ0 28) H := by
  exact h 28 _ rfl
theorem sc_29 (h : va_P D cls (lBC a cA ++ lMod a2 cA2) H) : va_at D cls (ead (EE l D a a2 adK adV b sz cA cA2) 29, ce (EE l D a a2 adK adV b sz cA cA2) σ0 29) H := by
  exact h 29 _ rfl
theorem sc_30 (h : va_P D cls (lBC a cA ++ lMod a2 cA2) H) : va_at D cls (ead (EE l D a a2 adK adV b sz cA cA2) 30, ce (EE l D a a2 adK adV b sz cA cA2) σ0 30) H := by
  exact h 30 _ rfl
theorem sc_31 (h : va_P D cls (lBC a cA ++ lMod a2 cA2) H) : va_at D cls (ead (EE l D a a2 adK adV b sz cA cA2) 31, ce (EE l D a a2 adK adV b sz cA cA2) σ0 31) H := by
  exact h 31 _ rfl
theorem sc_32 (h : va_P D cls (lBC a cA ++ lMod a2 cA2) H) : va_at D cls (ead (EE l D a a2 adK adV b sz cA cA2) 32, ce (EE l D a a2 adK adV b sz cA cA2) σ0 32) H := by
  exact h 32 _ rfl
theorem sc_33 (h : va_P D cls (lBC a cA ++ lMod a2 cA2) H) : va_at D cls (ead (EE l D a a2 adK adV b sz cA cA2) 33, ce (EE l D a a2 adK adV b sz cA cA2) σ0 33) H := by
  exact h 33 _ rfl
theorem sc_34 (h : va_P D cls (lBC a cA ++ lMod a2 cA2) H) : va_at D cls (ead (EE l D a a2 adK adV b sz cA cA2) 34, ce (EE l D a a2 adK adV b sz cA cA2) σ0 34) H := by
  exact h 34 _ rfl
theorem sc_35 (h : va_P D cls (lBC a cA ++ lMod a2 cA2) H) : va_at D cls (ead (EE l D a a2 adK adV b sz cA cA2) 35, ce (EE l D a a2 adK adV b sz cA cA2) σ0 35) H := by
  exact h 35 _ rfl
theorem sc_36 (h : va_P D cls (lBC a cA ++ lMod a2 cA2) H) : va_at D cls (ead (EE l D a a2 adK adV b sz cA cA2) 36, ce (EE l D a a2 adK adV b sz cA cA2) σ0 36) H := by
  exact h 36 _ rfl
theorem sc_37 (h : va_P D cls (lBC a cA ++ lMod a2 cA2) H) : va_at D cls (ead (EE l D a a2 adK adV b sz cA cA2) 37, ce (EE l D a a2 adK adV b sz cA cA2) σ0 37) H := by
  exact h 37 _ rfl
theorem sc_38 (h : va_P D cls (lBC a cA ++ lMod a2 cA2) H) : va_at D cls (ead (EE l D a a2 adK adV b sz cA cA2) 38, ce (EE l D a a2 adK adV b sz cA cA2) σ0 38) H := by
  exact h 38 _ rfl
theorem sc_39 (h : va_P D cls (lBC a cA ++ lMod a2 cA2) H) : va_at D cls (ead (EE l D a a2 adK adV b sz cA cA2) 39, ce (EE l D a a2 adK adV b sz cA cA2) σ0 39) H := by
  exact h 39 _ rfl
theorem sc_40 (h : va_P D cls (lBC a cA ++ lMod a2 cA2) H) : va_at D cls (ead (EE l D a a2 adK adV b sz cA cA2) 40, ce (EE l D a a2 adK adV b sz cA cA2) σ0 40) H := by
  exact h 40 _ rfl
theorem sc_41 (h : va_P D cls (lBC a cA ++ lMod a2 cA2) H) : va_at D cls (ead (EE l D a a2 adK adV b sz cA cA2) 41, ce (EE l D a a2 adK adV b sz cA cA2) σ0 41) H := by
  exact h 41 _ rfl
theorem sc_42 (h : va_P D cls (lBC a cA ++ lMod a2 cA2) H) : va_at D cls (ead (EE l D a a2 adK adV b sz cA cA2) 42, ce (EE l D a a2 adK adV b sz cA cA2) σ0 42) H := by
  exact h 42 _ rfl
theorem sc_43 (h : va_P D cls (lBC a cA ++ lMod a2 cA2) H) : va_at D cls (ead (EE l D a a2 adK adV b sz cA cA2) 43, ce (EE l D a a2 adK adV b sz cA cA2) σ0 43) H := by
  exact h 43 _ rfl
theorem sc_44 (h : va_P D cls (lBC a cA ++ lMod a2 cA2) H) : va_at D cls (ead (EE l D a a2 adK adV b sz cA cA2) 44, ce (EE l D a a2 adK adV b sz cA cA2) σ0 44) H := by
  exact h 44 _ rfl
theorem sc_45 (h : va_P D cls (lBC a cA ++ lMod a2 cA2) H) : va_at D cls (ead (EE l D a a2 adK adV b sz cA cA2) 45, ce (EE l D a a2 adK adV b sz cA cA2) σ0 45) H := by
  exact h 45 _ rfl
theorem sc_46 (h : va_P D cls (lBC a cA ++ lMod a2 cA2) H) : va_at D cls (ead (EE l D a a2 adK adV b sz cA cA2) 46, ce (EE l D a a2 adK adV b sz cA cA2) σ0 46) H := by
  exact h 46 _ rfl
theorem sc_47 (h : va_P D cls (lBC a cA ++ lMod a2 cA2) H) : va_at D cls (ead (EE l D a a2 adK adV b sz cA cA2) 47, ce (EE l D a a2 adK adV b sz cA cA2) σ0 47) H := by
  exact h 47 _ rfl
theorem sc_48 (h : va_P D cls (lBC a cA ++ lMod a2 cA2) H) : va_at D cls (ead (EE l D a a2 adK adV b sz cA cA2) 48, ce (EE l D a a2 adK adV b sz cA cA2) σ0 48) H := by
  exact h 48 _ rfl
theorem sc_49 (h : va_P D cls (lBC a cA ++ lMod a2 cA2) H) : va_at D cls (ead (EE l D a a2 adK adV b sz cA cA2) 49, ce (EE l D a a2 adK adV b sz cA cA2) σ0 49) H := by
  exact h 49 _ rfl
theorem sc_50 (h : va_P D cls (lBC a cA ++ lMod a2 cA2) H) : va_at D cls (ead (EE l D a a2 adK adV b sz cA cA2) 50, ce (EE l D a a2 adK adV b sz cA cA2) σ0 50) H := by
  exact h 50 _ rfl
theorem sc_51 (h : va_P D cls (lBC a cA ++ lMod a2 cA2) H) : va_at D cls (ead (EE l D a a2 adK adV b sz cA cA2) 51, ce (EE l D a a2 adK adV b sz cA cA2) σ0 51) H := by
  exact h 51 _ rfl
theorem sc_52 (h : va_P D cls (lBC a cA ++ lMod a2 cA2) H) : va_at D cls (ead (EE l D a a2 adK adV b sz cA cA2) 52, ce (EE l D a a2 adK adV b sz cA cA2) σ0 52) H := by
  exact h 52 _ rfl
theorem sc_53 (h : va_P D cls (lBC a cA ++ lMod a2 cA2) H) : va_at D cls (ead (EE l D a a2 adK adV b sz cA cA2) 53, ce (EE l D a a2 adK adV b sz cA cA2) σ0 53) H := by
  have h1 := h 53 _ rfl
  have h2 : H[ead (EE l D a a2 adK adV b sz cA cA2) 53]? = some (arrV _ _ (fun j => va_rf _)) := h1
  show H[ead (EE l D a a2 adK adV b sz cA cA2) 53]? = some (arrV (eaC (EE l D a a2 adK adV b sz cA cA2) 53) 10 (fun j => va_rf (some (ead (EE l D a a2 adK adV b sz cA cA2) (rf 53 (j : Nat))))))
  refine h2.trans (congrArg some (arrV_congr (fun j hj => ?_)))
  have hj : j < 10 := hj
  rcases (show j = 0 ∨ j = 1 ∨ j = 2 ∨ j = 3 ∨ j = 4 ∨ j = 5 ∨ j = 6 ∨ j = 7 ∨ j = 8 ∨ j = 9 by omega) with rfl | rfl | rfl | rfl | rfl | rfl | rfl | rfl | rfl | rfl <;> rfl
theorem sc_54 (h : va_P D cls (lBC a cA ++ lMod a2 cA2) H) : va_at D cls (ead (EE l D a a2 adK adV b sz cA cA2) 54, ce (EE l D a a2 adK adV b sz cA cA2) σ0 54) H := by
  exact h 54 _ rfl
theorem sc_55 (h : va_P D cls (lBC a cA ++ lMod a2 cA2) H) : va_at D cls (ead (EE l D a a2 adK adV b sz cA cA2) 55, ce (EE l D a a2 adK adV b sz cA cA2) σ0 55) H := by
  exact h 55 _ rfl
theorem sc_56 (h : va_P D cls (lBC a cA ++ lMod a2 cA2) H) : va_at D cls (ead (EE l D a a2 adK adV b sz cA cA2) 56, ce (EE l D a a2 adK adV b sz cA cA2) σ0 56) H := by
  exact h 56 _ rfl
theorem sc_57 (h : va_P D cls (lBC a cA ++ lMod a2 cA2) H) : va_at D cls (ead (EE l D a a2 adK adV b sz cA cA2) 57, ce (EE l D a a2 adK adV b sz cA cA2) σ0 57) H := by
  exact h 57 _ rfl
theorem sc_58 (h : va_P D cls (lBC a cA ++ lMod a2 cA2) H) : va_at D cls (ead (EE l D a a2 adK adV b sz cA cA2) 58, ce (EE l D a a2 adK adV b sz cA cA2) σ0 58) H := by
  exact h 58 _ rfl
theorem sc_59 (h : va_P D cls (lBC a cA ++ lMod a2 cA2) H) : va_at D cls (ead (EE l D a a2 adK adV b sz cA cA2) 59, ce (EE l D a a2 adK adV b sz cA cA2) σ0 59) H := by
  exact h 59 _ rfl
theorem sc_60 (h : va_P D cls (lBC a cA ++ lMod a2 cA2) H) : va_at D cls (ead (EE l D a a2 adK adV b sz cA cA2) 60, ce (EE l D a a2 adK adV b sz cA cA2) σ0 60) H := by
  exact h 60 _ rfl
theorem sc_61 (h : va_P D cls (lBC a cA ++ lMod a2 cA2) H) : va_at D cls (ead (EE l D a a2 adK adV b sz cA cA2) 61, ce (EE l D a a2 adK adV b sz cA cA2) σ0 61) H := by
  exact h 61 _ rfl
theorem sc_62 (h : va_P D cls (lBC a cA ++ lMod a2 cA2) H) : va_at D cls (ead (EE l D a a2 adK adV b sz cA cA2) 62, ce (EE l D a a2 adK adV b sz cA cA2) σ0 62) H := by
  exact h 62 _ rfl
theorem sc_63 (h : va_P D cls (lBC a cA ++ lMod a2 cA2) H) : va_at D cls (ead (EE l D a a2 adK adV b sz cA cA2) 63, ce (EE l D a a2 adK adV b sz cA cA2) σ0 63) H := by
  exact h 63 _ rfl
theorem sc_64 (h : va_P D cls (lBC a cA ++ lMod a2 cA2) H) : va_at D cls (ead (EE l D a a2 adK adV b sz cA cA2) 64, ce (EE l D a a2 adK adV b sz cA cA2) σ0 64) H := by
  exact h 64 _ rfl
theorem sc_65 (h : va_P D cls (lBC a cA ++ lMod a2 cA2) H) : va_at D cls (ead (EE l D a a2 adK adV b sz cA cA2) 65, ce (EE l D a a2 adK adV b sz cA cA2) σ0 65) H := by
  exact h 65 _ rfl
theorem sc_66 (h : va_P D cls (lBC a cA ++ lMod a2 cA2) H) : va_at D cls (ead (EE l D a a2 adK adV b sz cA cA2) 66, ce (EE l D a a2 adK adV b sz cA cA2) σ0 66) H := by
  exact h 66 _ rfl
theorem sc_67 (h : va_P D cls (lBC a cA ++ lMod a2 cA2) H) : va_at D cls (ead (EE l D a a2 adK adV b sz cA cA2) 67, ce (EE l D a a2 adK adV b sz cA cA2) σ0 67) H := by
  exact h 67 _ rfl
theorem sc_68 (h : va_P D cls (lBC a cA ++ lMod a2 cA2) H) : va_at D cls (ead (EE l D a a2 adK adV b sz cA cA2) 68, ce (EE l D a a2 adK adV b sz cA cA2) σ0 68) H := by
  exact h 68 _ rfl
theorem sc_69 (h : va_P D cls (lBC a cA ++ lMod a2 cA2) H) : va_at D cls (ead (EE l D a a2 adK adV b sz cA cA2) 69, ce (EE l D a a2 adK adV b sz cA cA2) σ0 69) H := by
  exact h 69 _ rfl
theorem sc_70 (h : va_P D cls (lBC a cA ++ lMod a2 cA2) H) : va_at D cls (ead (EE l D a a2 adK adV b sz cA cA2) 70, ce (EE l D a a2 adK adV b sz cA cA2) σ0 70) H := by
  exact h 70 _ rfl
theorem sc_71 (h : va_P D cls (lBC a cA ++ lMod a2 cA2) H) : va_at D cls (ead (EE l D a a2 adK adV b sz cA cA2) 71, ce (EE l D a a2 adK adV b sz cA cA2) σ0 71) H := by
  exact h 71 _ rfl
theorem sc_72 (h : va_P D cls (lBC a cA ++ lMod a2 cA2) H) : va_at D cls (ead (EE l D a a2 adK adV b sz cA cA2) 72, ce (EE l D a a2 adK adV b sz cA cA2) σ0 72) H := by
  exact h 72 _ rfl
theorem sc_73 (h : va_P D cls (lBC a cA ++ lMod a2 cA2) H) : va_at D cls (ead (EE l D a a2 adK adV b sz cA cA2) 73, ce (EE l D a a2 adK adV b sz cA cA2) σ0 73) H := by
  exact h 73 _ rfl
theorem sc_74 (h : va_P D cls (lBC a cA ++ lMod a2 cA2) H) : va_at D cls (ead (EE l D a a2 adK adV b sz cA cA2) 74, ce (EE l D a a2 adK adV b sz cA cA2) σ0 74) H := by
  exact h 74 _ rfl
theorem sc_75 (h : va_P D cls (lBC a cA ++ lMod a2 cA2) H) : va_at D cls (ead (EE l D a a2 adK adV b sz cA cA2) 75, ce (EE l D a a2 adK adV b sz cA cA2) σ0 75) H := by
  exact h 75 _ rfl
theorem sc_76 (h : va_P D cls (lBC a cA ++ lMod a2 cA2) H) : va_at D cls (ead (EE l D a a2 adK adV b sz cA cA2) 76, ce (EE l D a a2 adK adV b sz cA cA2) σ0 76) H := by
  exact h 76 _ rfl
theorem sc_77 (h : va_P D cls (lBC a cA ++ lMod a2 cA2) H) : va_at D cls (ead (EE l D a a2 adK adV b sz cA cA2) 77, ce (EE l D a a2 adK adV b sz cA cA2) σ0 77) H := by
  exact h 77 _ rfl
theorem sc_78 (h : va_P D cls (lBC a cA ++ lMod a2 cA2) H) : va_at D cls (ead (EE l D a a2 adK adV b sz cA cA2) 78, ce (EE l D a a2 adK adV b sz cA cA2) σ0 78) H := by
  exact h 78 _ rfl
theorem sc_79 (h : va_P D cls (lBC a cA ++ lMod a2 cA2) H) : va_at D cls (ead (EE l D a a2 adK adV b sz cA cA2) 79, ce (EE l D a a2 adK adV b sz cA cA2) σ0 79) H := by
  exact h 79 _ rfl
theorem sc_80 (h : va_P D cls (lBC a cA ++ lMod a2 cA2) H) : va_at D cls (ead (EE l D a a2 adK adV b sz cA cA2) 80, ce (EE l D a a2 adK adV b sz cA cA2) σ0 80) H := by
  exact h 80 _ rfl
theorem sc_81 (h : va_P D cls (lBC a cA ++ lMod a2 cA2) H) : va_at D cls (ead (EE l D a a2 adK adV b sz cA cA2) 81, ce (EE l D a a2 adK adV b sz cA cA2) σ0 81) H := by
  exact h 81 _ rfl
theorem sc_82 (h : va_P D cls (lBC a cA ++ lMod a2 cA2) H) : va_at D cls (ead (EE l D a a2 adK adV b sz cA cA2) 82, ce (EE l D a a2 adK adV b sz cA cA2) σ0 82) H := by
  exact h 82 _ rfl
theorem sc_83 (h : va_P D cls (lBC a cA ++ lMod a2 cA2) H) : va_at D cls (ead (EE l D a a2 adK adV b sz cA cA2) 83, ce (EE l D a a2 adK adV b sz cA cA2) σ0 83) H := by
  exact h 83 _ rfl
theorem sc_84 (h : va_P D cls (lBC a cA ++ lMod a2 cA2) H) : va_at D cls (ead (EE l D a a2 adK adV b sz cA cA2) 84, ce (EE l D a a2 adK adV b sz cA cA2) σ0 84) H := by
  exact h 84 _ rfl
theorem sc_85 (h : va_P D cls (lBC a cA ++ lMod a2 cA2) H) : va_at D cls (ead (EE l D a a2 adK adV b sz cA cA2) 85, ce (EE l D a a2 adK adV b sz cA cA2) σ0 85) H := by
  exact h 85 _ rfl
theorem sc_86 (h : va_P D cls (lBC a cA ++ lMod a2 cA2) H) : va_at D cls (ead (EE l D a a2 adK adV b sz cA cA2) 86, ce (EE l D a a2 adK adV b sz cA cA2) σ0 86) H := by
  exact h 86 _ rfl
theorem sc_87 (h : va_P D cls (lBC a cA ++ lMod a2 cA2) H) : va_at D cls (ead (EE l D a a2 adK adV b sz cA cA2) 87, ce (EE l D a a2 adK adV b sz cA cA2) σ0 87) H := by
  exact h 87 _ rfl
theorem sc_88 (h : va_P D cls (lBC a cA ++ lMod a2 cA2) H) : va_at D cls (ead (EE l D a a2 adK adV b sz cA cA2) 88, ce (EE l D a a2 adK adV b sz cA cA2) σ0 88) H := by
  exact h 88 _ rfl
theorem sc_89 (h : va_P D cls (lBC a cA ++ lMod a2 cA2) H) : va_at D cls (ead (EE l D a a2 adK adV b sz cA cA2) 89, ce (EE l D a a2 adK adV b sz cA cA2) σ0 89) H := by
  exact h 89 _ rfl
theorem sc_90 (h : va_P D cls (lBC a cA ++ lMod a2 cA2) H) : va_at D cls (ead (EE l D a a2 adK adV b sz cA cA2) 90, ce (EE l D a a2 adK adV b sz cA cA2) σ0 90) H := by
  exact h 90 _ rfl
theorem sc_91 (h : va_P D cls (lBC a cA ++ lMod a2 cA2) H) : va_at D cls (ead (EE l D a a2 adK adV b sz cA cA2) 91, ce (EE l D a a2 adK adV b sz cA cA2) σ0 91) H := by
  exact h 91 _ rfl
theorem sc_92 (h : va_P D cls (lBC a cA ++ lMod a2 cA2) H) : va_at D cls (ead (EE l D a a2 adK adV b sz cA cA2) 92, ce (EE l D a a2 adK adV b sz cA cA2) σ0 92) H := by
  exact h 92 _ rfl
theorem sc_93 (h : va_P D cls (lBC a cA ++ lMod a2 cA2) H) : va_at D cls (ead (EE l D a a2 adK adV b sz cA cA2) 93, ce (EE l D a a2 adK adV b sz cA cA2) σ0 93) H := by
  exact h 93 _ rfl
theorem sc_94 (h : va_P D cls (lBC a cA ++ lMod a2 cA2) H) : va_at D cls (ead (EE l D a a2 adK adV b sz cA cA2) 94, ce (EE l D a a2 adK adV b sz cA cA2) σ0 94) H := by
  exact h 94 _ rfl
theorem sc_95 (h : va_P D cls (lBC a cA ++ lMod a2 cA2) H) : va_at D cls (ead (EE l D a a2 adK adV b sz cA cA2) 95, ce (EE l D a a2 adK adV b sz cA cA2) σ0 95) H := by
  exact h 95 _ rfl
theorem sc_96 (h : va_P D cls (lBC a cA ++ lMod a2 cA2) H) : va_at D cls (ead (EE l D a a2 adK adV b sz cA cA2) 96, ce (EE l D a a2 adK adV b sz cA cA2) σ0 96) H := by
  exact h 96 _ rfl
theorem sc_97 (h : va_P D cls (lBC a cA ++ lMod a2 cA2) H) : va_at D cls (ead (EE l D a a2 adK adV b sz cA cA2) 97, ce (EE l D a a2 adK adV b sz cA cA2) σ0 97) H := by
  exact h 97 _ rfl
theorem sc_98 (h : va_P D cls (lBC a cA ++ lMod a2 cA2) H) : va_at D cls (ead (EE l D a a2 adK adV b sz cA cA2) 98, ce (EE l D a a2 adK adV b sz cA cA2) σ0 98) H := by
  exact h 98 _ rfl
theorem sc_99 (h : va_P D cls (lBC a cA ++ lMod a2 cA2) H) : va_at D cls (ead (EE l D a a2 adK adV b sz cA cA2) 99, ce (EE l D a a2 adK adV b sz cA cA2) σ0 99) H := by
  exact h 99 _ rfl
theorem sc_100 (h : va_P D cls (lBC a cA ++ lMod a2 cA2) H) : va_at D cls (ead (EE l D a a2 adK adV b sz cA cA2) 100, ce (EE l D a a2 adK adV b sz cA cA2) σ0 100) H := by
  exact h 100 _ rfl
theorem sc_101 (h : va_P D cls (lBC a cA ++ lMod a2 cA2) H) : va_at D cls (ead (EE l D a a2 adK adV b sz cA cA2) 101, ce (EE l D a a2 adK adV b sz cA cA2) σ0 101) H := by
  have h1 := h 101 _ rfl
  have h2 : H[ead (EE l D a a2 adK adV b sz cA cA2) 101]? = some (arrV _ _ (fun j => va_rf _)) := h1
  show H[ead (EE l D a a2 adK adV b sz cA cA2) 101]? = some (arrV (eaC (EE l D a a2 adK adV b sz cA cA2) 101) 4 (fun j => va_rf (some (ead (EE l D a a2 adK adV b sz cA cA2) (rf 101 (j : Nat))))))
  refine h2.trans (congrArg some (arrV_congr (fun j hj => ?_)))
  have hj : j < 4 := hj
  rcases (show j = 0 ∨ j = 1 ∨ j = 2 ∨ j = 3 by omega) with rfl | rfl | rfl | rfl <;> rfl
theorem sc_102 (h : va_P D cls (lBC a cA ++ lMod a2 cA2) H) : va_at D cls (ead (EE l D a a2 adK adV b sz cA cA2) 102, ce (EE l D a a2 adK adV b sz cA cA2) σ0 102) H := by
  exact h 102 _ rfl
theorem sc_103 (h : va_P D cls (lBC a cA ++ lMod a2 cA2) H) : va_at D cls (ead (EE l D a a2 adK adV b sz cA cA2) 103, ce (EE l D a a2 adK adV b sz cA cA2) σ0 103) H := by
  exact h 103 _ rfl
theorem sc_104 (h : va_P D cls (lBC a cA ++ lMod a2 cA2) H) : va_at D cls (ead (EE l D a a2 adK adV b sz cA cA2) 104, ce (EE l D a a2 adK adV b sz cA cA2) σ0 104) H := by
  exact h 104 _ rfl
theorem sc_105 (h : va_P D cls (lBC a cA ++ lMod a2 cA2) H) : va_at D cls (ead (EE l D a a2 adK adV b sz cA cA2) 105, ce (EE l D a a2 adK adV b sz cA cA2) σ0 105) H := by
  exact h 105 _ rfl
theorem sc_106 (h : va_P D cls (lBC a cA ++ lMod a2 cA2) H) : va_at D cls (ead (EE l D a a2 adK adV b sz cA cA2) 106, ce (EE l D a a2 adK adV b sz cA cA2) σ0 106) H := by
  exact h 106 _ rfl
theorem sc_107 (h : va_P D cls (lBC a cA ++ lMod a2 cA2) H) : va_at D cls (ead (EE l D a a2 adK adV b sz cA cA2) 107, ce (EE l D a a2 adK adV b sz cA cA2) σ0 107) H := by
  exact h 107 _ rfl
theorem sc_108 (h : va_P D cls (lBC a cA ++ lMod a2 cA2) H) : va_at D cls (ead (EE l D a a2 adK adV b sz cA cA2) 108, ce (EE l D a a2 adK adV b sz cA cA2) σ0 108) H := by
  exact h 108 _ rfl
theorem sc_109 (h : va_P D cls (lBC a cA ++ lMod a2 cA2) H) : va_at D cls (ead (EE l D a a2 adK adV b sz cA cA2) 109, ce (EE l D a a2 adK adV b sz cA cA2) σ0 109) H := by
  exact h 109 _ rfl
theorem sc_110 (h : va_P D cls (lBC a cA ++ lMod a2 cA2) H) : va_at D cls (ead (EE l D a a2 adK adV b sz cA cA2) 110, ce (EE l D a a2 adK adV b sz cA cA2) σ0 110) H := by
  have h1 := h 110 _ rfl
  have h2 : H[ead (EE l D a a2 adK adV b sz cA cA2) 110]? = some (arrV _ _ (fun j => va_rf _)) := h1
  show H[ead (EE l D a a2 adK adV b sz cA cA2) 110]? = some (arrV (eaC (EE l D a a2 adK adV b sz cA cA2) 110) 2 (fun j => va_rf (some (ead (EE l D a a2 adK adV b sz cA cA2) (rf 110 (j : Nat))))))
  refine h2.trans (congrArg some (arrV_congr (fun j hj => ?_)))
  have hj : j < 2 := hj
  rcases (show j = 0 ∨ j = 1 by omega) with rfl | rfl <;> rfl
theorem sc_111 (h : va_P D cls (lBC a cA ++ lMod a2 cA2) H) : va_at D cls (ead (EE l D a a2 adK adV b sz cA cA2) 111, ce (EE l D a a2 adK adV b sz cA cA2) σ0 111) H := by
  have h1 := h 111 _ rfl
  have h2 : H[ead (EE l D a a2 adK adV b sz cA cA2) 111]? = some (arrV _ _ (fun j => va_rf _)) := h1
  show H[ead (EE l D a a2 adK adV b sz cA cA2) 111]? = some (arrV (eaC (EE l D a a2 adK adV b sz cA cA2) 111) 2 (fun j => va_rf (some (ead (EE l D a a2 adK adV b sz cA cA2) (rf 111 (j : Nat))))))
  refine h2.trans (congrArg some (arrV_congr (fun j hj => ?_)))
  have hj : j < 2 := hj
  rcases (show j = 0 ∨ j = 1 by omega) with rfl | rfl <;> rfl
theorem sc_112 (h : va_P D cls (lBC a cA ++ lMod a2 cA2) H) : va_at D cls (ead (EE l D a a2 adK adV b sz cA cA2) 112, ce (EE l D a a2 adK adV b sz cA cA2) σ0 112) H := by
  exact h 112 _ rfl
theorem sc_113 (h : va_P D cls (lBC a cA ++ lMod a2 cA2) H) : va_at D cls (ead (EE l D a a2 adK adV b sz cA cA2) 113, ce (EE l D a a2 adK adV b sz cA cA2) σ0 113) H := by
  exact h 113 _ rfl
theorem sc_114 (h : va_P D cls (lBC a cA ++ lMod a2 cA2) H) : va_at D cls (ead (EE l D a a2 adK adV b sz cA cA2) 114, ce (EE l D a a2 adK adV b sz cA cA2) σ0 114) H := by
  exact h 114 _ rfl
theorem sc_115 (h : va_P D cls (lBC a cA ++ lMod a2 cA2) H) : va_at D cls (ead (EE l D a a2 adK adV b sz cA cA2) 115, ce (EE l D a a2 adK adV b sz cA cA2) σ0 115) H := by
  exact h 115 _ rfl
theorem sc_116 (h : va_P D cls (lBC a cA ++ lMod a2 cA2) H) : va_at D cls (ead (EE l D a a2 adK adV b sz cA cA2) 116, ce (EE l D a a2 adK adV b sz cA cA2) σ0 116) H := by
  have h1 := h 116 _ rfl
  have h2 : H[ead (EE l D a a2 adK adV b sz cA cA2) 116]? = some (arrV _ _ (fun j => .int _)) := h1
  show H[ead (EE l D a a2 adK adV b sz cA cA2) 116]? = some (arrV (eaC (EE l D a a2 adK adV b sz cA cA2) 116) 3108 (fun j => .int (Int32.ofInt (σ0 116 (j : Nat)))))
  refine h2.trans (congrArg some (arrV_congr (fun j hj => ?_)))
  have hj : j < 3108 := hj
  by_cases e5 : j = 5
  · subst e5; rfl
  have z : σ0 116 (j : Nat) = 0 := by
    have f5 : ¬ ((j : Nat) : Int) = 5 := by omega
    show (if ((j : Nat) : Int) = 5 then 50 else 0 : Int) = 0
    rw [if_neg f5]
  rw [z]
  show Value.int (_) = .int (Int32.ofInt 0)
  congr 1; show _ = (0 : Int32)
  simp only [upd]
  simp [e5]
theorem sc_117 (h : va_P D cls (lBC a cA ++ lMod a2 cA2) H) : va_at D cls (ead (EE l D a a2 adK adV b sz cA cA2) 117, ce (EE l D a a2 adK adV b sz cA cA2) σ0 117) H := by
  exact h 117 _ rfl
theorem sc_118 (h : va_P D cls (lBC a cA ++ lMod a2 cA2) H) : va_at D cls (ead (EE l D a a2 adK adV b sz cA cA2) 118, ce (EE l D a a2 adK adV b sz cA cA2) σ0 118) H := by
  exact h 118 _ rfl
theorem sc_119 (h : va_P D cls (lBC a cA ++ lMod a2 cA2) H) : va_at D cls (ead (EE l D a a2 adK adV b sz cA cA2) 119, ce (EE l D a a2 adK adV b sz cA cA2) σ0 119) H := by
  exact h 119 _ rfl
theorem sc_120 (h : va_P D cls (lBC a cA ++ lMod a2 cA2) H) : va_at D cls (ead (EE l D a a2 adK adV b sz cA cA2) 120, ce (EE l D a a2 adK adV b sz cA cA2) σ0 120) H := by
  exact h 120 _ rfl
theorem sc_121 (h : va_P D cls (lBC a cA ++ lMod a2 cA2) H) : va_at D cls (ead (EE l D a a2 adK adV b sz cA cA2) 121, ce (EE l D a a2 adK adV b sz cA cA2) σ0 121) H := by
  exact h 121 _ rfl
theorem sc_122 (h : va_P D cls (lBC a cA ++ lMod a2 cA2) H) : va_at D cls (ead (EE l D a a2 adK adV b sz cA cA2) 122, ce (EE l D a a2 adK adV b sz cA cA2) σ0 122) H := by
  exact h 122 _ rfl
theorem sc_123 (h : va_P D cls (lBC a cA ++ lMod a2 cA2) H) : va_at D cls (ead (EE l D a a2 adK adV b sz cA cA2) 123, ce (EE l D a a2 adK adV b sz cA cA2) σ0 123) H := by
  exact h 123 _ rfl
theorem sc_124 (h : va_P D cls (lBC a cA ++ lMod a2 cA2) H) : va_at D cls (ead (EE l D a a2 adK adV b sz cA cA2) 124, ce (EE l D a a2 adK adV b sz cA cA2) σ0 124) H := by
  exact h 124 _ rfl
theorem sc_125 (h : va_P D cls (lBC a cA ++ lMod a2 cA2) H) : va_at D cls (ead (EE l D a a2 adK adV b sz cA cA2) 125, ce (EE l D a a2 adK adV b sz cA cA2) σ0 125) H := by
  exact h 125 _ rfl
theorem sc_126 (h : va_P D cls (lBC a cA ++ lMod a2 cA2) H) : va_at D cls (ead (EE l D a a2 adK adV b sz cA cA2) 126, ce (EE l D a a2 adK adV b sz cA cA2) σ0 126) H := by
  exact h 126 _ rfl
theorem sc_127 (h : va_P D cls (lBC a cA ++ lMod a2 cA2) H) : va_at D cls (ead (EE l D a a2 adK adV b sz cA cA2) 127, ce (EE l D a a2 adK adV b sz cA cA2) σ0 127) H := by
  exact h 127 _ rfl
theorem sc_128 (h : va_P D cls (lBC a cA ++ lMod a2 cA2) H) : va_at D cls (ead (EE l D a a2 adK adV b sz cA cA2) 128, ce (EE l D a a2 adK adV b sz cA cA2) σ0 128) H := by
  exact h 128 _ rfl
theorem sc_129 (h : va_P D cls (lBC a cA ++ lMod a2 cA2) H) : va_at D cls (ead (EE l D a a2 adK adV b sz cA cA2) 129, ce (EE l D a a2 adK adV b sz cA cA2) σ0 129) H := by
  exact h 129 _ rfl
theorem sc_130 (h : va_P D cls (lBC a cA ++ lMod a2 cA2) H) : va_at D cls (ead (EE l D a a2 adK adV b sz cA cA2) 130, ce (EE l D a a2 adK adV b sz cA cA2) σ0 130) H := by
  have h1 := h 130 _ rfl
  have h2 : H[ead (EE l D a a2 adK adV b sz cA cA2) 130]? = some (arrV _ _ (fun j => .int _)) := h1
  show H[ead (EE l D a a2 adK adV b sz cA cA2) 130]? = some (arrV (eaC (EE l D a a2 adK adV b sz cA cA2) 130) 4 (fun j => .int (Int32.ofInt (σ0 130 (j : Nat)))))
  refine h2.trans (congrArg some (arrV_congr (fun j hj => ?_)))
  have hj : j < 4 := hj
  by_cases e0 : j = 0
  · subst e0; rfl
  by_cases e1 : j = 1
  · subst e1; rfl
  by_cases e2 : j = 2
  · subst e2; rfl
  by_cases e3 : j = 3
  · subst e3; rfl
  have z : σ0 130 (j : Nat) = 0 := by
    have f0 : ¬ ((j : Nat) : Int) = 0 := by omega
    have f1 : ¬ ((j : Nat) : Int) = 1 := by omega
    have f2 : ¬ ((j : Nat) : Int) = 2 := by omega
    have f3 : ¬ ((j : Nat) : Int) = 3 := by omega
    show (if ((j : Nat) : Int) = 0 then (-1) else if ((j : Nat) : Int) = 1 then (-1) else if ((j : Nat) : Int) = 2 then (-1) else if ((j : Nat) : Int) = 3 then (-1) else 0 : Int) = 0
    rw [if_neg f0, if_neg f1, if_neg f2, if_neg f3]
  rw [z]
  show Value.int (_) = .int (Int32.ofInt 0)
  congr 1; show _ = (0 : Int32)
  simp only [upd]
  simp [e0, e1, e2, e3]
theorem sc_131 (h : va_P D cls (lBC a cA ++ lMod a2 cA2) H) : va_at D cls (ead (EE l D a a2 adK adV b sz cA cA2) 131, ce (EE l D a a2 adK adV b sz cA cA2) σ0 131) H := by
  exact h 131 _ rfl
theorem sc_132 (h : va_P D cls (lBC a cA ++ lMod a2 cA2) H) : va_at D cls (ead (EE l D a a2 adK adV b sz cA cA2) 132, ce (EE l D a a2 adK adV b sz cA cA2) σ0 132) H := by
  exact h 132 _ rfl
theorem wsv0 (h : va_P D cls (lBC a cA ++ lMod a2 cA2) H) : va_P D cls (wsv (EE l D a a2 adK adV b sz cA cA2) σ0) H := by
  intro k q hq
  have hk : k < nC := by have := (List.getElem?_eq_some_iff.mp hq).1; simpa [wsv] using this
  rw [wsv_at hk] at hq
  cases hq
  match k, hk with
  | 0, _ => exact sc_0 h
  | 1, _ => exact sc_1 h
  | 2, _ => exact sc_2 h
  | 3, _ => exact sc_3 h
  | 4, _ => exact sc_4 h
  | 5, _ => exact sc_5 h
  | 6, _ => exact sc_6 h
  | 7, _ => exact sc_7 h
  | 8, _ => exact sc_8 h
  | 9, _ => exact sc_9 h
  | 10, _ => exact sc_10 h
  | 11, _ => exact sc_11 h
  | 12, _ => exact sc_12 h
  | 13, _ => exact sc_13 h
  | 14, _ => exact sc_14 h
  | 15, _ => exact sc_15 h
  | 16, _ => exact sc_16 h
  | 17, _ => exact sc_17 h
  | 18, _ => exact sc_18 h
  | 19, _ => exact sc_19 h
  | 20, _ => exact sc_20 h
  | 21, _ => exact sc_21 h
  | 22, _ => exact sc_22 h
  | 23, _ => exact sc_23 h
  | 24, _ => exact sc_24 h
  | 25, _ => exact sc_25 h
  | 26, _ => exact sc_26 h
  | 27, _ => exact sc_27 h
  | 28, _ => exact sc_28 h
  | 29, _ => exact sc_29 h
  | 30, _ => exact sc_30 h
  | 31, _ => exact sc_31 h
  | 32, _ => exact sc_32 h
  | 33, _ => exact sc_33 h
  | 34, _ => exact sc_34 h
  | 35, _ => exact sc_35 h
  | 36, _ => exact sc_36 h
  | 37, _ => exact sc_37 h
  | 38, _ => exact sc_38 h
  | 39, _ => exact sc_39 h
  | 40, _ => exact sc_40 h
  | 41, _ => exact sc_41 h
  | 42, _ => exact sc_42 h
  | 43, _ => exact sc_43 h
  | 44, _ => exact sc_44 h
  | 45, _ => exact sc_45 h
  | 46, _ => exact sc_46 h
  | 47, _ => exact sc_47 h
  | 48, _ => exact sc_48 h
  | 49, _ => exact sc_49 h
  | 50, _ => exact sc_50 h
  | 51, _ => exact sc_51 h
  | 52, _ => exact sc_52 h
  | 53, _ => exact sc_53 h
  | 54, _ => exact sc_54 h
  | 55, _ => exact sc_55 h
  | 56, _ => exact sc_56 h
  | 57, _ => exact sc_57 h
  | 58, _ => exact sc_58 h
  | 59, _ => exact sc_59 h
  | 60, _ => exact sc_60 h
  | 61, _ => exact sc_61 h
  | 62, _ => exact sc_62 h
  | 63, _ => exact sc_63 h
  | 64, _ => exact sc_64 h
  | 65, _ => exact sc_65 h
  | 66, _ => exact sc_66 h
  | 67, _ => exact sc_67 h
  | 68, _ => exact sc_68 h
  | 69, _ => exact sc_69 h
  | 70, _ => exact sc_70 h
  | 71, _ => exact sc_71 h
  | 72, _ => exact sc_72 h
  | 73, _ => exact sc_73 h
  | 74, _ => exact sc_74 h
  | 75, _ => exact sc_75 h
  | 76, _ => exact sc_76 h
  | 77, _ => exact sc_77 h
  | 78, _ => exact sc_78 h
  | 79, _ => exact sc_79 h
  | 80, _ => exact sc_80 h
  | 81, _ => exact sc_81 h
  | 82, _ => exact sc_82 h
  | 83, _ => exact sc_83 h
  | 84, _ => exact sc_84 h
  | 85, _ => exact sc_85 h
  | 86, _ => exact sc_86 h
  | 87, _ => exact sc_87 h
  | 88, _ => exact sc_88 h
  | 89, _ => exact sc_89 h
  | 90, _ => exact sc_90 h
  | 91, _ => exact sc_91 h
  | 92, _ => exact sc_92 h
  | 93, _ => exact sc_93 h
  | 94, _ => exact sc_94 h
  | 95, _ => exact sc_95 h
  | 96, _ => exact sc_96 h
  | 97, _ => exact sc_97 h
  | 98, _ => exact sc_98 h
  | 99, _ => exact sc_99 h
  | 100, _ => exact sc_100 h
  | 101, _ => exact sc_101 h
  | 102, _ => exact sc_102 h
  | 103, _ => exact sc_103 h
  | 104, _ => exact sc_104 h
  | 105, _ => exact sc_105 h
  | 106, _ => exact sc_106 h
  | 107, _ => exact sc_107 h
  | 108, _ => exact sc_108 h
  | 109, _ => exact sc_109 h
  | 110, _ => exact sc_110 h
  | 111, _ => exact sc_111 h
  | 112, _ => exact sc_112 h
  | 113, _ => exact sc_113 h
  | 114, _ => exact sc_114 h
  | 115, _ => exact sc_115 h
  | 116, _ => exact sc_116 h
  | 117, _ => exact sc_117 h
  | 118, _ => exact sc_118 h
  | 119, _ => exact sc_119 h
  | 120, _ => exact sc_120 h
  | 121, _ => exact sc_121 h
  | 122, _ => exact sc_122 h
  | 123, _ => exact sc_123 h
  | 124, _ => exact sc_124 h
  | 125, _ => exact sc_125 h
  | 126, _ => exact sc_126 h
  | 127, _ => exact sc_127 h
  | 128, _ => exact sc_128 h
  | 129, _ => exact sc_129 h
  | 130, _ => exact sc_130 h
  | 131, _ => exact sc_131 h
  | 132, _ => exact sc_132 h
  | n + 133, h => exact absurd h (by unfold nC; omega)
theorem arT : ∀ (c k n : Nat), sh c = (k, n) → 20 ≤ k → k ≠ 99 → ∃ t0 : Nat, (ety (EE l D a a2 adK adV b sz cA cA2))[t0]? = some (eaC (EE l D a a2 adK adV b sz cA cA2) c, if k = 20 then .int else if k = 21 then .byte else if k = 22 then .boolean else if k = 23 then .long else .object (cls.getD (k - 30) (RZ0, TZ0, 0)).1) := by
  intro c k n hs h20 h99
  have hc := sh_lt hs h99
  match c, hc, hs with
  | 0, _, hs => cases hs; exact absurd h20 (by decide)
  | 1, _, hs => cases hs; exact ⟨0, rfl⟩
  | 2, _, hs => cases hs; exact absurd h20 (by decide)
  | 3, _, hs => cases hs; exact ⟨1, rfl⟩
  | 4, _, hs => cases hs; exact ⟨2, rfl⟩
  | 5, _, hs => cases hs; exact ⟨3, rfl⟩
  | 6, _, hs => cases hs; exact ⟨4, rfl⟩
  | 7, _, hs => cases hs; exact ⟨5, rfl⟩
  | 8, _, hs => cases hs; exact ⟨6, rfl⟩
  | 9, _, hs => cases hs; exact ⟨7, rfl⟩
  | 10, _, hs => cases hs; exact ⟨8, rfl⟩
  | 11, _, hs => cases hs; exact ⟨9, rfl⟩
  | 12, _, hs => cases hs; exact ⟨10, rfl⟩
  | 13, _, hs => cases hs; exact ⟨11, rfl⟩
  | 14, _, hs => cases hs; exact absurd h20 (by decide)
  | 15, _, hs => cases hs; exact ⟨12, rfl⟩
  | 16, _, hs => cases hs; exact ⟨13, rfl⟩
  | 17, _, hs => cases hs; exact ⟨14, rfl⟩
  | 18, _, hs => cases hs; exact ⟨15, rfl⟩
  | 19, _, hs => cases hs; exact ⟨16, rfl⟩
  | 20, _, hs => cases hs; exact ⟨17, rfl⟩
  | 21, _, hs => cases hs; exact ⟨18, rfl⟩
  | 22, _, hs => cases hs; exact ⟨19, rfl⟩
  | 23, _, hs => cases hs; exact ⟨20, rfl⟩
  | 24, _, hs => cases hs; exact ⟨21, rfl⟩
  | 25, _, hs => cases hs; exact ⟨22, rfl⟩
  | 26, _, hs => cases hs; exact absurd h20 (by decide)
  | 27, _, hs => cases hs; exact ⟨23, rfl⟩
  | 28, _, hs => cases hs; exact ⟨24, rfl⟩
  | 29, _, hs => cases hs; exact ⟨25, rfl⟩
  | 30, _, hs => cases hs; exact ⟨26, rfl⟩
  | 31, _, hs => cases hs; exact ⟨27, rfl⟩
  | 32, _, hs => cases hs; exact ⟨28, rfl⟩
  | 33, _, hs => cases hs; exact ⟨29, rfl⟩
  | 34, _, hs => cases hs; exact ⟨30, rfl⟩
  | 35, _, hs => cases hs; exact ⟨31, rfl⟩
  | 36, _, hs => cases hs; exact ⟨32, rfl⟩
  | 37, _, hs => cases hs; exact ⟨33, rfl⟩
  | 38, _, hs => cases hs; exact absurd h20 (by decide)
  | 39, _, hs => cases hs; exact ⟨34, rfl⟩
  | 40, _, hs => cases hs; exact ⟨35, rfl⟩
  | 41, _, hs => cases hs; exact ⟨36, rfl⟩
  | 42, _, hs => cases hs; exact ⟨37, rfl⟩
  | 43, _, hs => cases hs; exact ⟨38, rfl⟩
  | 44, _, hs => cases hs; exact ⟨39, rfl⟩
  | 45, _, hs => cases hs; exact ⟨40, rfl⟩
  | 46, _, hs => cases hs; exact ⟨41, rfl⟩
  | 47, _, hs => cases hs; exact ⟨42, rfl⟩
  | 48, _, hs => cases hs; exact ⟨43, rfl⟩
  | 49, _, hs => cases hs; exact ⟨44, rfl⟩
  | 50, _, hs => cases hs; exact absurd h20 (by decide)
  | 51, _, hs => cases hs; exact absurd h20 (by decide)
  | 52, _, hs => cases hs; exact absurd h20 (by decide)
  | 53, _, hs => cases hs; exact ⟨45, rfl⟩
  | 54, _, hs => cases hs; exact absurd h20 (by decide)
  | 55, _, hs => cases hs; exact absurd h20 (by decide)
  | 56, _, hs => cases hs; exact absurd h20 (by decide)
  | 57, _, hs => cases hs; exact absurd h20 (by decide)
  | 58, _, hs => cases hs; exact absurd h20 (by decide)
  | 59, _, hs => cases hs; exact absurd h20 (by decide)
  | 60, _, hs => cases hs; exact absurd h20 (by decide)
  | 61, _, hs => cases hs; exact absurd h20 (by decide)
  | 62, _, hs => cases hs; exact absurd h20 (by decide)
  | 63, _, hs => cases hs; exact absurd h20 (by decide)
  | 64, _, hs => cases hs; exact absurd h20 (by decide)
  | 65, _, hs => cases hs; exact ⟨46, rfl⟩
  | 66, _, hs => cases hs; exact ⟨47, rfl⟩
  | 67, _, hs => cases hs; exact ⟨48, rfl⟩
  | 68, _, hs => cases hs; exact absurd h20 (by decide)
  | 69, _, hs => cases hs; exact ⟨49, rfl⟩
  | 70, _, hs => cases hs; exact ⟨50, rfl⟩
  | 71, _, hs => cases hs; exact ⟨51, rfl⟩
  | 72, _, hs => cases hs; exact ⟨52, rfl⟩
  | 73, _, hs => cases hs; exact absurd h20 (by decide)
  | 74, _, hs => cases hs; exact ⟨53, rfl⟩
  | 75, _, hs => cases hs; exact ⟨54, rfl⟩
  | 76, _, hs => cases hs; exact ⟨55, rfl⟩
  | 77, _, hs => cases hs; exact ⟨56, rfl⟩
  | 78, _, hs => cases hs; exact ⟨57, rfl⟩
  | 79, _, hs => cases hs; exact ⟨58, rfl⟩
  | 80, _, hs => cases hs; exact ⟨59, rfl⟩
  | 81, _, hs => cases hs; exact ⟨60, rfl⟩
  | 82, _, hs => cases hs; exact absurd h20 (by decide)
  | 83, _, hs => cases hs; exact ⟨61, rfl⟩
  | 84, _, hs => cases hs; exact ⟨62, rfl⟩
  | 85, _, hs => cases hs; exact ⟨63, rfl⟩
  | 86, _, hs => cases hs; exact ⟨64, rfl⟩
  | 87, _, hs => cases hs; exact ⟨65, rfl⟩
  | 88, _, hs => cases hs; exact ⟨66, rfl⟩
  | 89, _, hs => cases hs; exact ⟨67, rfl⟩
  | 90, _, hs => cases hs; exact ⟨68, rfl⟩
  | 91, _, hs => cases hs; exact absurd h20 (by decide)
  | 92, _, hs => cases hs; exact absurd h20 (by decide)
  | 93, _, hs => cases hs; exact ⟨69, rfl⟩
  | 94, _, hs => cases hs; exact ⟨70, rfl⟩
  | 95, _, hs => cases hs; exact ⟨71, rfl⟩
  | 96, _, hs => cases hs; exact absurd h20 (by decide)
  | 97, _, hs => cases hs; exact ⟨72, rfl⟩
  | 98, _, hs => cases hs; exact ⟨73, rfl⟩
  | 99, _, hs => cases hs; exact ⟨74, rfl⟩
  | 100, _, hs => cases hs; exact ⟨75, rfl⟩
  | 101, _, hs => cases hs; exact ⟨76, rfl⟩
  | 102, _, hs => cases hs; exact absurd h20 (by decide)
  | 103, _, hs => cases hs; exact ⟨77, rfl⟩
  | 104, _, hs => cases hs; exact absurd h20 (by decide)
  | 105, _, hs => cases hs; exact ⟨78, rfl⟩
  | 106, _, hs => cases hs; exact absurd h20 (by decide)
  | 107, _, hs => cases hs; exact ⟨79, rfl⟩
  | 108, _, hs => cases hs; exact absurd h20 (by decide)
  | 109, _, hs => cases hs; exact ⟨80, rfl⟩
  | 110, _, hs => cases hs; exact ⟨81, rfl⟩
  | 111, _, hs => cases hs; exact ⟨82, rfl⟩
  | 112, _, hs => cases hs; exact ⟨83, rfl⟩
  | 113, _, hs => cases hs; exact absurd h20 (by decide)
  | 114, _, hs => cases hs; exact absurd h20 (by decide)
  | 115, _, hs => cases hs; exact absurd h20 (by decide)
  | 116, _, hs => cases hs; exact ⟨84, rfl⟩
  | 117, _, hs => cases hs; exact ⟨85, rfl⟩
  | 118, _, hs => cases hs; exact ⟨86, rfl⟩
  | 119, _, hs => cases hs; exact ⟨87, rfl⟩
  | 120, _, hs => cases hs; exact ⟨88, rfl⟩
  | 121, _, hs => cases hs; exact ⟨89, rfl⟩
  | 122, _, hs => cases hs; exact ⟨90, rfl⟩
  | 123, _, hs => cases hs; exact ⟨91, rfl⟩
  | 124, _, hs => cases hs; exact ⟨92, rfl⟩
  | 125, _, hs => cases hs; exact ⟨93, rfl⟩
  | 126, _, hs => cases hs; exact ⟨94, rfl⟩
  | 127, _, hs => cases hs; exact ⟨95, rfl⟩
  | 128, _, hs => cases hs; exact ⟨96, rfl⟩
  | 129, _, hs => cases hs; exact ⟨97, rfl⟩
  | 130, _, hs => cases hs; exact ⟨98, rfl⟩
  | 131, _, hs => cases hs; exact ⟨99, rfl⟩
  | 132, _, hs => cases hs; exact ⟨100, rfl⟩
  | n + 133, h, _ => exact absurd h (by unfold nC; omega)
theorem adD (h : va_D (fun q => sz ≤ q) (lBC a cA ++ lMod a2 cA2)) : AD (EE l D a a2 adK adV b sz cA cA2) := by
  have at1 : ∀ c, c < nC → ∃ x, (lBC a cA ++ lMod a2 cA2)[c]? = some (ead (EE l D a a2 adK adV b sz cA cA2) c, x) := by
    intro c hc
    match c, hc with
    | 0, _ => exact ⟨_, rfl⟩
    | 1, _ => exact ⟨_, rfl⟩
    | 2, _ => exact ⟨_, rfl⟩
    | 3, _ => exact ⟨_, rfl⟩
    | 4, _ => exact ⟨_, rfl⟩
    | 5, _ => exact ⟨_, rfl⟩
    | 6, _ => exact ⟨_, rfl⟩
    | 7, _ => exact ⟨_, rfl⟩
    | 8, _ => exact ⟨_, rfl⟩
    | 9, _ => exact ⟨_, rfl⟩
    | 10, _ => exact ⟨_, rfl⟩
    | 11, _ => exact ⟨_, rfl⟩
    | 12, _ => exact ⟨_, rfl⟩
    | 13, _ => exact ⟨_, rfl⟩
    | 14, _ => exact ⟨_, rfl⟩
    | 15, _ => exact ⟨_, rfl⟩
    | 16, _ => exact ⟨_, rfl⟩
    | 17, _ => exact ⟨_, rfl⟩
    | 18, _ => exact ⟨_, rfl⟩
    | 19, _ => exact ⟨_, rfl⟩
    | 20, _ => exact ⟨_, rfl⟩
    | 21, _ => exact ⟨_, rfl⟩
    | 22, _ => exact ⟨_, rfl⟩
    | 23, _ => exact ⟨_, rfl⟩
    | 24, _ => exact ⟨_, rfl⟩
    | 25, _ => exact ⟨_, rfl⟩
    | 26, _ => exact ⟨_, rfl⟩
    | 27, _ => exact ⟨_, rfl⟩
    | 28, _ => exact ⟨_, rfl⟩
    | 29, _ => exact ⟨_, rfl⟩
    | 30, _ => exact ⟨_, rfl⟩
    | 31, _ => exact ⟨_, rfl⟩
    | 32, _ => exact ⟨_, rfl⟩
    | 33, _ => exact ⟨_, rfl⟩
    | 34, _ => exact ⟨_, rfl⟩
    | 35, _ => exact ⟨_, rfl⟩
    | 36, _ => exact ⟨_, rfl⟩
    | 37, _ => exact ⟨_, rfl⟩
    | 38, _ => exact ⟨_, rfl⟩
    | 39, _ => exact ⟨_, rfl⟩
    | 40, _ => exact ⟨_, rfl⟩
    | 41, _ => exact ⟨_, rfl⟩
    | 42, _ => exact ⟨_, rfl⟩
    | 43, _ => exact ⟨_, rfl⟩
    | 44, _ => exact ⟨_, rfl⟩
    | 45, _ => exact ⟨_, rfl⟩
    | 46, _ => exact ⟨_, rfl⟩
    | 47, _ => exact ⟨_, rfl⟩
    | 48, _ => exact ⟨_, rfl⟩
    | 49, _ => exact ⟨_, rfl⟩
    | 50, _ => exact ⟨_, rfl⟩
    | 51, _ => exact ⟨_, rfl⟩
    | 52, _ => exact ⟨_, rfl⟩
    | 53, _ => exact ⟨_, rfl⟩
    | 54, _ => exact ⟨_, rfl⟩
    | 55, _ => exact ⟨_, rfl⟩
    | 56, _ => exact ⟨_, rfl⟩
    | 57, _ => exact ⟨_, rfl⟩
    | 58, _ => exact ⟨_, rfl⟩
    | 59, _ => exact ⟨_, rfl⟩
    | 60, _ => exact ⟨_, rfl⟩
    | 61, _ => exact ⟨_, rfl⟩
    | 62, _ => exact ⟨_, rfl⟩
    | 63, _ => exact ⟨_, rfl⟩
    | 64, _ => exact ⟨_, rfl⟩
    | 65, _ => exact ⟨_, rfl⟩
    | 66, _ => exact ⟨_, rfl⟩
    | 67, _ => exact ⟨_, rfl⟩
    | 68, _ => exact ⟨_, rfl⟩
    | 69, _ => exact ⟨_, rfl⟩
    | 70, _ => exact ⟨_, rfl⟩
    | 71, _ => exact ⟨_, rfl⟩
    | 72, _ => exact ⟨_, rfl⟩
    | 73, _ => exact ⟨_, rfl⟩
    | 74, _ => exact ⟨_, rfl⟩
    | 75, _ => exact ⟨_, rfl⟩
    | 76, _ => exact ⟨_, rfl⟩
    | 77, _ => exact ⟨_, rfl⟩
    | 78, _ => exact ⟨_, rfl⟩
    | 79, _ => exact ⟨_, rfl⟩
    | 80, _ => exact ⟨_, rfl⟩
    | 81, _ => exact ⟨_, rfl⟩
    | 82, _ => exact ⟨_, rfl⟩
    | 83, _ => exact ⟨_, rfl⟩
    | 84, _ => exact ⟨_, rfl⟩
    | 85, _ => exact ⟨_, rfl⟩
    | 86, _ => exact ⟨_, rfl⟩
    | 87, _ => exact ⟨_, rfl⟩
    | 88, _ => exact ⟨_, rfl⟩
    | 89, _ => exact ⟨_, rfl⟩
    | 90, _ => exact ⟨_, rfl⟩
    | 91, _ => exact ⟨_, rfl⟩
    | 92, _ => exact ⟨_, rfl⟩
    | 93, _ => exact ⟨_, rfl⟩
    | 94, _ => exact ⟨_, rfl⟩
    | 95, _ => exact ⟨_, rfl⟩
    | 96, _ => exact ⟨_, rfl⟩
    | 97, _ => exact ⟨_, rfl⟩
    | 98, _ => exact ⟨_, rfl⟩
    | 99, _ => exact ⟨_, rfl⟩
    | 100, _ => exact ⟨_, rfl⟩
    | 101, _ => exact ⟨_, rfl⟩
    | 102, _ => exact ⟨_, rfl⟩
    | 103, _ => exact ⟨_, rfl⟩
    | 104, _ => exact ⟨_, rfl⟩
    | 105, _ => exact ⟨_, rfl⟩
    | 106, _ => exact ⟨_, rfl⟩
    | 107, _ => exact ⟨_, rfl⟩
    | 108, _ => exact ⟨_, rfl⟩
    | 109, _ => exact ⟨_, rfl⟩
    | 110, _ => exact ⟨_, rfl⟩
    | 111, _ => exact ⟨_, rfl⟩
    | 112, _ => exact ⟨_, rfl⟩
    | 113, _ => exact ⟨_, rfl⟩
    | 114, _ => exact ⟨_, rfl⟩
    | 115, _ => exact ⟨_, rfl⟩
    | 116, _ => exact ⟨_, rfl⟩
    | 117, _ => exact ⟨_, rfl⟩
    | 118, _ => exact ⟨_, rfl⟩
    | 119, _ => exact ⟨_, rfl⟩
    | 120, _ => exact ⟨_, rfl⟩
    | 121, _ => exact ⟨_, rfl⟩
    | 122, _ => exact ⟨_, rfl⟩
    | 123, _ => exact ⟨_, rfl⟩
    | 124, _ => exact ⟨_, rfl⟩
    | 125, _ => exact ⟨_, rfl⟩
    | 126, _ => exact ⟨_, rfl⟩
    | 127, _ => exact ⟨_, rfl⟩
    | 128, _ => exact ⟨_, rfl⟩
    | 129, _ => exact ⟨_, rfl⟩
    | 130, _ => exact ⟨_, rfl⟩
    | 131, _ => exact ⟨_, rfl⟩
    | 132, _ => exact ⟨_, rfl⟩
    | n + 133, h => exact absurd h (by unfold nC; omega)
  refine ⟨fun i j hi hj e => ?_, fun c hc => ?_⟩
  · obtain ⟨x, hx⟩ := at1 i hi
    obtain ⟨y, hy⟩ := at1 j hj
    exact h.1 i j _ _ hx hy e
  · obtain ⟨x, hx⟩ := at1 c hc
    exact h.2 c _ hx
theorem rg_i {t : Nat} {v : Int} (h : t = 0) (hv : i32 v) : rg t v := by subst h; exact hv
theorem rng0 : Rng σ0 := by
  intro c k
  have z : ∀ t, rg t 0 := by intro t; unfold rg i64 i32; (repeat' split) <;> first | exact Or.inl rfl | omega
  unfold σ0
  by_cases h0 : c = 0
  · subst h0
    rw [if_pos rfl]
    by_cases g : k = 3
    · subst g; rw [if_pos rfl]; exact rg_i (by decide +kernel) ⟨by decide, by decide⟩
    rw [if_neg g]; clear g
    exact z _
  rw [if_neg h0]; clear h0
  by_cases h2 : c = 2
  · subst h2
    rw [if_pos rfl]
    by_cases g : k = 5
    · subst g; rw [if_pos rfl]; exact rg_i (by decide +kernel) ⟨by decide, by decide⟩
    rw [if_neg g]; clear g
    exact z _
  rw [if_neg h2]; clear h2
  by_cases h14 : c = 14
  · subst h14
    rw [if_pos rfl]
    by_cases g : k = 5
    · subst g; rw [if_pos rfl]; exact rg_i (by decide +kernel) ⟨by decide, by decide⟩
    rw [if_neg g]; clear g
    exact z _
  rw [if_neg h14]; clear h14
  by_cases h26 : c = 26
  · subst h26
    rw [if_pos rfl]
    by_cases g : k = 5
    · subst g; rw [if_pos rfl]; exact rg_i (by decide +kernel) ⟨by decide, by decide⟩
    rw [if_neg g]; clear g
    exact z _
  rw [if_neg h26]; clear h26
  by_cases h38 : c = 38
  · subst h38
    rw [if_pos rfl]
    by_cases g : k = 5
    · subst g; rw [if_pos rfl]; exact rg_i (by decide +kernel) ⟨by decide, by decide⟩
    rw [if_neg g]; clear g
    exact z _
  rw [if_neg h38]; clear h38
  by_cases h64 : c = 64
  · subst h64
    rw [if_pos rfl]
    by_cases g : k = 8
    · subst g; rw [if_pos rfl]; exact rg_i (by decide +kernel) ⟨by decide, by decide⟩
    rw [if_neg g]; clear g
    exact z _
  rw [if_neg h64]; clear h64
  by_cases h91 : c = 91
  · subst h91
    rw [if_pos rfl]
    by_cases g : k = 2
    · subst g; rw [if_pos rfl]; exact rg_i (by decide +kernel) ⟨by decide, by decide⟩
    rw [if_neg g]; clear g
    exact z _
  rw [if_neg h91]; clear h91
  by_cases h92 : c = 92
  · subst h92
    rw [if_pos rfl]
    by_cases g : k = 5
    · subst g; rw [if_pos rfl]; exact rg_i (by decide +kernel) ⟨by decide, by decide⟩
    rw [if_neg g]; clear g
    exact z _
  rw [if_neg h92]; clear h92
  by_cases h96 : c = 96
  · subst h96
    rw [if_pos rfl]
    by_cases g : k = 5
    · subst g; rw [if_pos rfl]; exact rg_i (by decide +kernel) ⟨by decide, by decide⟩
    rw [if_neg g]; clear g
    exact z _
  rw [if_neg h96]; clear h96
  by_cases h102 : c = 102
  · subst h102
    rw [if_pos rfl]
    by_cases g : k = 1
    · subst g; rw [if_pos rfl]; exact rg_i (by decide +kernel) ⟨by decide, by decide⟩
    rw [if_neg g]; clear g
    exact z _
  rw [if_neg h102]; clear h102
  by_cases h104 : c = 104
  · subst h104
    rw [if_pos rfl]
    by_cases g : k = 1
    · subst g; rw [if_pos rfl]; exact rg_i (by decide +kernel) ⟨by decide, by decide⟩
    rw [if_neg g]; clear g
    exact z _
  rw [if_neg h104]; clear h104
  by_cases h106 : c = 106
  · subst h106
    rw [if_pos rfl]
    by_cases g : k = 1
    · subst g; rw [if_pos rfl]; exact rg_i (by decide +kernel) ⟨by decide, by decide⟩
    rw [if_neg g]; clear g
    exact z _
  rw [if_neg h106]; clear h106
  by_cases h108 : c = 108
  · subst h108
    rw [if_pos rfl]
    by_cases g : k = 1
    · subst g; rw [if_pos rfl]; exact rg_i (by decide +kernel) ⟨by decide, by decide⟩
    rw [if_neg g]; clear g
    exact z _
  rw [if_neg h108]; clear h108
  by_cases h115 : c = 115
  · subst h115
    rw [if_pos rfl]
    by_cases g : k = 14
    · subst g; rw [if_pos rfl]; exact rg_i (by decide +kernel) ⟨by decide, by decide⟩
    rw [if_neg g]; clear g
    exact z _
  rw [if_neg h115]; clear h115
  by_cases h116 : c = 116
  · subst h116
    rw [if_pos rfl]
    by_cases g : k = 5
    · subst g; rw [if_pos rfl]; exact rg_i (by decide +kernel) ⟨by decide, by decide⟩
    rw [if_neg g]; clear g
    exact z _
  rw [if_neg h116]; clear h116
  by_cases h130 : c = 130
  · subst h130
    rw [if_pos rfl]
    by_cases g : k = 0
    · subst g; rw [if_pos rfl]; exact rg_i (by decide +kernel) ⟨by decide, by decide⟩
    rw [if_neg g]; clear g
    by_cases g : k = 1
    · subst g; rw [if_pos rfl]; exact rg_i (by decide +kernel) ⟨by decide, by decide⟩
    rw [if_neg g]; clear g
    by_cases g : k = 2
    · subst g; rw [if_pos rfl]; exact rg_i (by decide +kernel) ⟨by decide, by decide⟩
    rw [if_neg g]; clear g
    by_cases g : k = 3
    · subst g; rw [if_pos rfl]; exact rg_i (by decide +kernel) ⟨by decide, by decide⟩
    rw [if_neg g]; clear g
    exact z _
  rw [if_neg h130]; clear h130
  exact z _
end STA
