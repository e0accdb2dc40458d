theorem sw3 (a0 a1 a2 a3 : Nat) : nval [a0, 0, a1, 0, a2, 0, a3, 0] = a0 + 256 * a1 + 65536 * a2 + 16777216 * a3 := by simp only [nval]; omega
theorem sw4 {a0 a1 a2 a3 : Nat} (h0 : a0 ≤ 8) : (a0 + 256 * a1 + 65536 * a2 + 16777216 * a3) / 256 = a1 + 256 * a2 + 65536 * a3 := by omega
theorem sw5 {a0 a1 a2 a3 : Nat} (h0 : a0 ≤ 8) (h1 : a1 ≤ 8) (h2 : a2 ≤ 8) : (a0 + 256 * a1 + 65536 * a2 + 16777216 * a3 + (a1 + 256 * a2 + 65536 * a3)) / 65536 = a2 + a3 + 256 * a3 := by omega
theorem sw6 {a0 a1 a2 a3 : Nat} (h0 : a0 ≤ 8) (h1 : a1 ≤ 8) (h2 : a2 ≤ 8) (h3 : a3 ≤ 8) : (a0 + 256 * a1 + 65536 * a2 + 16777216 * a3 + (a1 + 256 * a2 + 65536 * a3) + (a2 + a3 + 256 * a3)) % 64 = a0 + a1 + a2 + a3 := by omega
theorem swar {u : Nat} (hu : u < 4294967296) : ∃ x1 x2 x3 x4 : Nat, (u / 2 &&& 1431655765) ≤ u ∧ x1 = u - (u / 2 &&& 1431655765) ∧ (x1 &&& 858993459) + (x1 / 4 &&& 858993459) < 4294967296 ∧ x2 = (x1 &&& 858993459) + (x1 / 4 &&& 858993459) ∧ x2 + x2 / 16 < 4294967296 ∧ x3 = ((x2 + x2 / 16) &&& 252645135) ∧ x3 + x3 / 256 < 4294967296 ∧ x4 = x3 + x3 / 256 ∧ x4 + x4 / 65536 < 4294967296 ∧ ((x4 + x4 / 65536) &&& 63) = pc4 (u % 16) + pc4 (u / 16 % 16) + pc4 (u / 256 % 16) + pc4 (u / 4096 % 16) + pc4 (u / 65536 % 16) + pc4 (u / 1048576 % 16) + pc4 (u / 16777216 % 16) + pc4 (u / 268435456 % 16) := by
  have pe : ∀ r : Nat, r < 16 → n2F (n1F r) = pc4 r ∧ n1F r < 16 ∧ pc4 r ≤ 4 := fun r hr => ⟨pc4_1 ⟨r, hr⟩, (n1_1 0 ⟨r, hr⟩).2.2, by unfold pc4; omega⟩
  have p0 := pe (u % 16) (by omega)
  have p1 := pe (u / 16 % 16) (by omega)
  have p2 := pe (u / 256 % 16) (by omega)
  have p3 := pe (u / 4096 % 16) (by omega)
  have p4 := pe (u / 65536 % 16) (by omega)
  have p5 := pe (u / 1048576 % 16) (by omega)
  have p6 := pe (u / 16777216 % 16) (by omega)
  have p7 := pe (u / 268435456 % 16) (by omega)
  have eu : nval [u % 16, u / 16 % 16, u / 256 % 16, u / 4096 % 16, u / 65536 % 16, u / 1048576 % 16, u / 16777216 % 16, u / 268435456 % 16] = u := by simp only [nval]; omega
  have s1 := x1v [u % 16, u / 16 % 16, u / 256 % 16, u / 4096 % 16, u / 65536 % 16, u / 1048576 % 16, u / 16777216 % 16, u / 268435456 % 16] (by intro a ha; simp only [List.mem_cons, List.mem_nil_iff, or_false] at ha; omega)
  have m5 : mF 5 8 = 1431655765 := by decide
  have m3 : mF 3 8 = 858993459 := by decide
  rw [eu] at s1
  simp only [List.length_cons, List.length_nil, List.map_cons, List.map_nil] at s1
  rw [show 0 + 1 + 1 + 1 + 1 + 1 + 1 + 1 + 1 = 8 by omega, m5] at s1
  have s2 := x2v [n1F (u % 16), n1F (u / 16 % 16), n1F (u / 256 % 16), n1F (u / 4096 % 16), n1F (u / 65536 % 16), n1F (u / 1048576 % 16), n1F (u / 16777216 % 16), n1F (u / 268435456 % 16)] (by intro a ha; simp only [List.mem_cons, List.mem_nil_iff, or_false] at ha; omega)
  simp only [List.length_cons, List.length_nil, List.map_cons, List.map_nil] at s2
  rw [show 0 + 1 + 1 + 1 + 1 + 1 + 1 + 1 + 1 = 8 by omega, m3, p0.1, p1.1, p2.1, p3.1, p4.1, p5.1, p6.1, p7.1] at s2
  generalize pc4 (u % 16) = a0 at *
  generalize pc4 (u / 16 % 16) = a1 at *
  generalize pc4 (u / 256 % 16) = a2 at *
  generalize pc4 (u / 4096 % 16) = a3 at *
  generalize pc4 (u / 65536 % 16) = a4 at *
  generalize pc4 (u / 1048576 % 16) = a5 at *
  generalize pc4 (u / 16777216 % 16) = a6 at *
  generalize pc4 (u / 268435456 % 16) = a7 at *
  rw [← s1.2] at s2
  have h1 := s1.1
  clear s1 eu pe
  have b0 := p0.2.2
  have b1 := p1.2.2
  have b2 := p2.2.2
  have b3 := p3.2.2
  have b4 := p4.2.2
  have b5 := p5.2.2
  have b6 := p6.2.2
  have b7 := p7.2.2
  clear p0 p1 p2 p3 p4 p5 p6 p7
  refine ⟨_, _, _, _, h1, rfl, ?_, rfl, ?_, rfl, ?_, rfl, ?_, ?_⟩
  all_goals rw [s2]
  · simp only [nval]; omega
  · simp only [nval]; omega
  all_goals
    have e3 : nval [a0, a1, a2, a3, a4, a5, a6, a7] + nval [a0, a1, a2, a3, a4, a5, a6, a7] / 16 = nval [a0 + a1, a1 + a2, a2 + a3, a3 + a4, a4 + a5, a5 + a6, a6 + a7, a7] := by simp only [nval]; omega
    have e4 : (252645135 : Nat) = nval [15, 0, 15, 0, 15, 0, 15, 0] := by decide
    have e5 := andv [a0 + a1, a1 + a2, a2 + a3, a3 + a4, a4 + a5, a5 + a6, a6 + a7, a7] [15, 0, 15, 0, 15, 0, 15, 0] rfl (by intro a ha; simp only [List.mem_cons, List.mem_nil_iff, or_false] at ha; omega) (by intro a ha; simp only [List.mem_cons, List.mem_nil_iff, or_false] at ha; omega)
    simp only [List.zipWith_cons_cons, List.zipWith_nil_right, Nat.and_zero] at e5
    rw [show ((a0 + a1) &&& 15) = a0 + a1 from and15 ⟨a0 + a1, by omega⟩, show ((a2 + a3) &&& 15) = a2 + a3 from and15 ⟨a2 + a3, by omega⟩, show ((a4 + a5) &&& 15) = a4 + a5 from and15 ⟨a4 + a5, by omega⟩, show ((a6 + a7) &&& 15) = a6 + a7 from and15 ⟨a6 + a7, by omega⟩] at e5
    rw [e3, e4, e5]
  · simp only [nval]; omega
  · simp only [nval]; omega
  · rw [show (63 : Nat) = 2 ^ 6 - 1 by decide, Nat.and_two_pow_sub_one_eq_mod, sw3, sw4 (by omega), sw5 (by omega) (by omega) (by omega)]
    have := sw6 (a0 := a0 + a1) (a1 := a2 + a3) (a2 := a4 + a5) (a3 := a6 + a7) (by omega) (by omega) (by omega) (by omega)
    rw [show (2 : Nat) ^ 6 = 64 by decide, this]
    clear this
    simp only [Nat.add_assoc]
