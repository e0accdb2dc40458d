theorem pcd (w : Nat) : pc4 (w % 16) = w % 2 + w / 2 % 2 + w / 4 % 2 + w / 8 % 2 := by unfold pc4; omega
theorem pcd2 (u D : Nat) : pc4 (u / D % 16) = u / D % 2 + u / (D * 2) % 2 + u / (D * 4) % 2 + u / (D * 8) % 2 := by rw [pcd, Nat.div_div_eq_div_mul, Nat.div_div_eq_div_mul, Nat.div_div_eq_div_mul]
def bq1 (a : Int) : Int := w32 (a - ian (ius a 1) 1431655765)
def bq2 (y : Int) : Int := w32 (ian y 858993459 + ian (ius y 2) 858993459)
def bq3 (y : Int) : Int := ian (w32 (y + ius y 4)) 252645135
def bq4 (y : Int) : Int := w32 (y + ius y 8)
def bq5 (y : Int) : Int := w32 (y + ius y 16)
theorem bcE_q (a : Int) : bcE a = ian (bq5 (bq4 (bq3 (bq2 (bq1 a))))) 63 := by unfold bcE bq5 bq4 bq3 bq2 bq1; rfl
theorem pcB {a : Int} (i : Nat) (hi : i < 8) : pcS a (4 * i + 4) = pcS a (4 * i) + ((pc4 (uN a / 16 ^ i % 16) : Nat) : Int) := by
  have h0 : 2 ^ (4 * i) = 16 ^ i := by rw [Nat.pow_mul]
  have h1 : 2 ^ (4 * i + 1) = 16 ^ i * 2 := by rw [Nat.pow_add, h0]
  have h2 : 2 ^ (4 * i + 2) = 16 ^ i * 4 := by rw [Nat.pow_add, h0]
  have h3 : 2 ^ (4 * i + 3) = 16 ^ i * 8 := by rw [Nat.pow_add, h0]
  show pcS a (4 * i) + bt a ((4 * i : Nat) : Int) + bt a ((4 * i + 1 : Nat) : Int) + bt a ((4 * i + 2 : Nat) : Int) + bt a ((4 * i + 3 : Nat) : Int) = _
  rw [bt_u (4 * i) (by omega), bt_u (4 * i + 1) (by omega), bt_u (4 * i + 2) (by omega), bt_u (4 * i + 3) (by omega), h0, h1, h2, h3, pcd2]
  simp only [Int.natCast_add, Int.add_assoc]
theorem pcS_32 {a : Int} : pcS a 32 = ((pc4 (uN a % 16) + pc4 (uN a / 16 % 16) + pc4 (uN a / 256 % 16) + pc4 (uN a / 4096 % 16) + pc4 (uN a / 65536 % 16) + pc4 (uN a / 1048576 % 16) + pc4 (uN a / 16777216 % 16) + pc4 (uN a / 268435456 % 16) : Nat) : Int) := by
  have h7 : pcS a 32 = pcS a 28 + ((pc4 (uN a / 268435456 % 16) : Nat) : Int) := pcB 7 (by omega)
  have h6 : pcS a 28 = pcS a 24 + ((pc4 (uN a / 16777216 % 16) : Nat) : Int) := pcB 6 (by omega)
  have h5 : pcS a 24 = pcS a 20 + ((pc4 (uN a / 1048576 % 16) : Nat) : Int) := pcB 5 (by omega)
  have h4 : pcS a 20 = pcS a 16 + ((pc4 (uN a / 65536 % 16) : Nat) : Int) := pcB 4 (by omega)
  have h3 : pcS a 16 = pcS a 12 + ((pc4 (uN a / 4096 % 16) : Nat) : Int) := pcB 3 (by omega)
  have h2 : pcS a 12 = pcS a 8 + ((pc4 (uN a / 256 % 16) : Nat) : Int) := pcB 2 (by omega)
  have h1 : pcS a 8 = pcS a 4 + ((pc4 (uN a / 16 % 16) : Nat) : Int) := pcB 1 (by omega)
  have h0 : pcS a 4 = pcS a 0 + ((pc4 (uN a / 1 % 16) : Nat) : Int) := pcB 0 (by omega)
  rw [h7, h6, h5, h4, h3, h2, h1, h0, Nat.div_one, show pcS a 0 = 0 from rfl]
  simp only [Int.natCast_add, Int.zero_add]
