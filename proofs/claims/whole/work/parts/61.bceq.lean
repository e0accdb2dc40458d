theorem pc4_le (r : Nat) : pc4 r ≤ 4 := by unfold pc4; omega
theorem bcE_eq (a : Int) : bcE a = pcS a 32 := by
  have hu := uN_lt a
  rw [pcS_32, bcE_q]
  obtain ⟨x1, x2, x3, x4, c1, e1, c2, e2, c3, e3, c4, e4, c5, e5⟩ := swar hu
  have hb : pc4 (uN a % 16) + pc4 (uN a / 16 % 16) + pc4 (uN a / 256 % 16) + pc4 (uN a / 4096 % 16) + pc4 (uN a / 65536 % 16) + pc4 (uN a / 1048576 % 16) + pc4 (uN a / 16777216 % 16) + pc4 (uN a / 268435456 % 16) < 1000 := by
    have q0 := pc4_le (uN a % 16)
    have q1 := pc4_le (uN a / 16 % 16)
    have q2 := pc4_le (uN a / 256 % 16)
    have q3 := pc4_le (uN a / 4096 % 16)
    have q4 := pc4_le (uN a / 65536 % 16)
    have q5 := pc4_le (uN a / 1048576 % 16)
    have q6 := pc4_le (uN a / 16777216 % 16)
    have q7 := pc4_le (uN a / 268435456 % 16)
    clear e5 e4 e3 e2 e1 c1 c2 c3 c4 c5 hu
    generalize pc4 (uN a % 16) = z0 at *
    generalize pc4 (uN a / 16 % 16) = z1 at *
    generalize pc4 (uN a / 256 % 16) = z2 at *
    generalize pc4 (uN a / 4096 % 16) = z3 at *
    generalize pc4 (uN a / 65536 % 16) = z4 at *
    generalize pc4 (uN a / 1048576 % 16) = z5 at *
    generalize pc4 (uN a / 16777216 % 16) = z6 at *
    generalize pc4 (uN a / 268435456 % 16) = z7 at *
    omega
  refine uN_eq (show i32 (ian (bq5 (bq4 (bq3 (bq2 (bq1 a))))) 63) from ian_i32 _ _) hb ?_
  rw [← e5]
  have m1 : uN 1431655765 = 1431655765 := by decide
  have m2 : uN 858993459 = 858993459 := by decide
  have m3 : uN 252645135 = 252645135 := by decide
  have m4 : uN 63 = 63 := by decide
  have f1 : uN (ian (ius a 1) 1431655765) = (uN a / 2 &&& 1431655765) := by rw [uN_an, uN_us _ _ 1 (by decide), m1]
  have f2 : uN (bq1 a) = x1 := by unfold bq1; rw [uN_sb (by rw [f1]; exact c1), f1, e1]
  have g1 : uN (ian (bq1 a) 858993459) = (x1 &&& 858993459) := by rw [uN_an, f2, m2]
  have g2 : uN (ian (ius (bq1 a) 2) 858993459) = (x1 / 4 &&& 858993459) := by rw [uN_an, uN_us _ _ 2 (by decide), f2, m2]
  have f3 : uN (bq2 (bq1 a)) = x2 := by unfold bq2; rw [uN_ad (by rw [g1, g2]; exact c2), g1, g2, e2]
  have h4 : uN (ius (bq2 (bq1 a)) 4) = x2 / 16 := by rw [uN_us _ _ 4 (by decide), f3]
  have f4 : uN (bq3 (bq2 (bq1 a))) = x3 := by unfold bq3; rw [uN_an, m3, uN_ad (by rw [f3, h4]; exact c3), f3, h4, e3]
  have h8 : uN (ius (bq3 (bq2 (bq1 a))) 8) = x3 / 256 := by rw [uN_us _ _ 8 (by decide), f4]
  have f5 : uN (bq4 (bq3 (bq2 (bq1 a)))) = x4 := by unfold bq4; rw [uN_ad (by rw [f4, h8]; exact c4), f4, h8, e4]
  have h16 : uN (ius (bq4 (bq3 (bq2 (bq1 a)))) 16) = x4 / 65536 := by rw [uN_us _ _ 16 (by decide), f5]
  rw [uN_an, m4]
  unfold bq5
  rw [uN_ad (by rw [f5, h16]; exact c5), f5, h16]
