/-! quiet, safest, bold -/
def bcE (a0 : Int) : Int := (ian (w32 ((w32 ((ian (w32 ((w32 ((ian (w32 (a0 - (ian (ius a0 1) 1431655765))) 858993459) + (ian (ius (w32 (a0 - (ian (ius a0 1) 1431655765))) 2) 858993459))) + (ius (w32 ((ian (w32 (a0 - (ian (ius a0 1) 1431655765))) 858993459) + (ian (ius (w32 (a0 - (ian (ius a0 1) 1431655765))) 2) 858993459))) 4))) 252645135) + (ius (ian (w32 ((w32 ((ian (w32 (a0 - (ian (ius a0 1) 1431655765))) 858993459) + (ian (ius (w32 (a0 - (ian (ius a0 1) 1431655765))) 2) 858993459))) + (ius (w32 ((ian (w32 (a0 - (ian (ius a0 1) 1431655765))) 858993459) + (ian (ius (w32 (a0 - (ian (ius a0 1) 1431655765))) 2) 858993459))) 4))) 252645135) 8))) + (ius (w32 ((ian (w32 ((w32 ((ian (w32 (a0 - (ian (ius a0 1) 1431655765))) 858993459) + (ian (ius (w32 (a0 - (ian (ius a0 1) 1431655765))) 2) 858993459))) + (ius (w32 ((ian (w32 (a0 - (ian (ius a0 1) 1431655765))) 858993459) + (ian (ius (w32 (a0 - (ian (ius a0 1) 1431655765))) 2) 858993459))) 4))) 252645135) + (ius (ian (w32 ((w32 ((ian (w32 (a0 - (ian (ius a0 1) 1431655765))) 858993459) + (ian (ius (w32 (a0 - (ian (ius a0 1) 1431655765))) 2) 858993459))) + (ius (w32 ((ian (w32 (a0 - (ian (ius a0 1) 1431655765))) 858993459) + (ian (ius (w32 (a0 - (ian (ius a0 1) 1431655765))) 2) 858993459))) 4))) 252645135) 8))) 16))) 63)
theorem bc_1 : ∀ a : Fin 64, bcE (a.val : Int) = cnt6 (a.val : Int) := by decide +kernel
theorem bc6 {a : Int} (h : 0 ≤ a ∧ a < 64) : bcE a = cnt6 a := by
  have := bc_1 ⟨a.toNat, by omega⟩
  simp only [show ((a.toNat : Nat) : Int) = a by omega] at this
  exact this
theorem shF_b {T : Int → Int} (k : Int) : 0 ≤ shF T k ∧ shF T k ≤ 100 := by
  unfold shF; split
  · omega
  · exact clp_b (by decide)
/-- how likely nobody finds out -/
def quS (T : Int → Int) (s : Int) : Nat → Int
  | 0 => 10000
  | n + 1 => if bt s n = 0 then quS T s n else Int.tdiv (quS T s n * (100 - shF T n)) 100
theorem qu_step {a s : Int} (ha : 0 ≤ a ∧ a ≤ 10000) (hs : 0 ≤ s ∧ s ≤ 100) : (0 ≤ a * (100 - s) ∧ a * (100 - s) ≤ 1000000) ∧ (0 ≤ Int.tdiv (a * (100 - s)) 100 ∧ Int.tdiv (a * (100 - s)) 100 ≤ 10000) := by
  have h1 : 0 ≤ a * (100 - s) := Int.mul_nonneg ha.1 (by omega)
  have h2 : a * (100 - s) ≤ a * 100 := Int.mul_le_mul_of_nonneg_left (by omega) ha.1
  rw [Int.tdiv_eq_ediv_of_nonneg h1]
  omega
theorem quS_b {T : Int → Int} {s : Int} : ∀ n : Nat, 0 ≤ quS T s n ∧ quS T s n ≤ 10000
  | 0 => by simp [quS]
  | n + 1 => by
    have ih := quS_b (T := T) (s := s) n
    simp only [quS]; split
    · exact ih
    · exact (qu_step ih (shF_b n)).2
theorem quS_0 {T : Int → Int} : ∀ n : Nat, quS T 0 n = 10000
  | 0 => rfl
  | n + 1 => by simp only [quS]; rw [if_pos (bt0 _)]; exact quS_0 n
theorem woS_0 {T : Int → Int} : ∀ n : Nat, woS T 0 n = 0
  | 0 => rfl
  | n + 1 => by simp only [woS]; rw [if_pos (bt0 _), woS_0 n]; rfl
section
variable {E : EN} {d : Nat} {σ : Mem} {T : Int → Int}
theorem s_bitCount {K : Int → Mem → Prop} {a : Int} (q : K (bcE a) σ) : CI E y_Int_bitCount d [vi a] σ K := c_Int_bitCount (b_Int_bitCount_0 q)
theorem s_bitsOf {K : Int → Mem → Prop} {a : Int} (ha : 0 ≤ a ∧ a < 64) (q : K (cnt6 a) σ) : CI E y_Mod_bitsOf d [vi a] σ K := by
  have hi : i32 a := by unfold i32; omega
  have b0 := bt_01 a 0
  have b1 := bt_01 a 1
  have b2 := bt_01 a 2
  have b3 := bt_01 a 3
  have b4 := bt_01 a 4
  have b5 := bt_01 a 5
  refine c_Mod_bitsOf (b_Mod_bitsOf_0 (b_Mod_bitsOf_4 ⟨fun z => absurd z (by decide), fun _ => ?_⟩))
  rw [bit_eq hi (by omega), wid (x := 0 + bt a 0) (by omega) (by omega), wid (x := (0 : Int) + 1) (by omega) (by omega)]
  refine b_Mod_bitsOf_4 ⟨fun z => absurd z (by decide), fun _ => ?_⟩
  rw [bit_eq hi (by omega), show (0 : Int) + 1 = 1 by omega, wid (x := 0 + bt a 0 + bt a 1) (by omega) (by omega), wid (x := (1 : Int) + 1) (by omega) (by omega)]
  refine b_Mod_bitsOf_4 ⟨fun z => absurd z (by decide), fun _ => ?_⟩
  rw [bit_eq hi (by omega), show (1 : Int) + 1 = 2 by omega, wid (x := 0 + bt a 0 + bt a 1 + bt a 2) (by omega) (by omega), wid (x := (2 : Int) + 1) (by omega) (by omega)]
  refine b_Mod_bitsOf_4 ⟨fun z => absurd z (by decide), fun _ => ?_⟩
  rw [bit_eq hi (by omega), show (2 : Int) + 1 = 3 by omega, wid (x := 0 + bt a 0 + bt a 1 + bt a 2 + bt a 3) (by omega) (by omega), wid (x := (3 : Int) + 1) (by omega) (by omega)]
  refine b_Mod_bitsOf_4 ⟨fun z => absurd z (by decide), fun _ => ?_⟩
  rw [bit_eq hi (by omega), show (3 : Int) + 1 = 4 by omega, wid (x := 0 + bt a 0 + bt a 1 + bt a 2 + bt a 3 + bt a 4) (by omega) (by omega), wid (x := (4 : Int) + 1) (by omega) (by omega)]
  refine b_Mod_bitsOf_4 ⟨fun z => absurd z (by decide), fun _ => ?_⟩
  rw [bit_eq hi (by omega), show (4 : Int) + 1 = 5 by omega, wid (x := 0 + bt a 0 + bt a 1 + bt a 2 + bt a 3 + bt a 4 + bt a 5) (by omega) (by omega), wid (x := (5 : Int) + 1) (by omega) (by omega)]
  refine b_Mod_bitsOf_4 ⟨fun _ => ?_, fun z => absurd z (by decide)⟩
  unfold cnt6 at q
  rw [show 0 + bt a 0 = bt a 0 by omega]
  exact q
theorem s_Room_quietOf {K : Int → Mem → Prop} {s : Int} (hT : MT T) (hP : HR σ 2 T) (hs : i32 s) (q : K (quS T s (T 4).toNat) σ) : CI E y_Room_quietOf d [vr 2, vi s] σ K := by
  have h2r : isRoom 2 := Or.inl rfl
  have t4 := hT.2.2.2.1
  have p3 : σ 2 3 = T 4 := hP.1.2.2.2.1
  have loop : ∀ (m i : Nat), (i : Int) + m = T 4 → Z E y_Room_quietOf d 6 [some (vr 2), some (vi s), some (vi (quS T s i)), some (vi (i : Int))] [] σ (qi K) := by
    intro m
    induction m with
    | zero =>
      intro i hi
      refine b_Room_quietOf_6 h2r ⟨fun _ => ?_, fun z => absurd z (by omega)⟩
      have : i = (T 4).toNat := by omega
      subst this; exact q
    | succ m ih =>
      intro i hi
      have qb := quS_b (T := T) (s := s) i
      have sb := shF_b (T := T) i
      have st := qu_step qb sb
      refine b_Room_quietOf_6 h2r ⟨fun z => absurd z (by omega), fun _ => ⟨fun z => absurd z (by omega), fun _ => ?_⟩⟩
      have e8 : σ (2 + 8) (i : Int) = shF T i := (hP.2.2.2.2.2 i (by omega) (by omega)).2.2.1
      rw [bit_eq hs (by omega), e8, wid (x := 100 - shF T i) (by omega) (by omega), wid (x := quS T s i * (100 - shF T i)) (by omega) (by omega), wid (x := Int.tdiv (quS T s i * (100 - shF T i)) 100) (by omega) (by omega), wid (x := (i : Int) + 1) (by omega) (by omega)]
      have nx := ih (i + 1) (by omega)
      simp only [quS] at nx
      refine ⟨fun e => ?_, fun e => ⟨by omega, ?_⟩⟩
      · rw [if_pos e] at nx; exact nx
      · rw [if_neg e] at nx; exact nx
  exact c_Room_quietOf (b_Room_quietOf_0 h2r (loop (T 4).toNat 0 (by omega)))
theorem t_quietOf {K : Int → Mem → Prop} {s : Int} (hd : 3 ≤ d) (hT : MT T) (e6 : σ 116 = T) (hs : i32 s) (q : ∀ τ : Mem, Fr [120] σ τ → K (quS T s (T 4).toNat) τ) : CI E y_Mod_quietOf d [vr 115, vi s] σ K := by
  have t4 := hT.2.2.2.1
  have loop : ∀ (m i : Nat) (τ : Mem), (i : Int) + m = T 4 → Fr [120] σ τ → Z E y_Mod_quietOf d 6 [some (vr 115), some (vi s), some (vi (quS T s i)), some (vi (i : Int))] [] τ (qi K) := by
    intro m
    induction m with
    | zero =>
      intro i τ hi hF
      have t6 : τ 116 = T := by rw [hF.one (by decide), e6]
      refine b_Mod_quietOf_6 (by omega) ⟨fun _ => ?_, fun z => absurd z (by rw [t6]; omega)⟩
      have : i = (T 4).toNat := by omega
      rw [this]; exact q τ hF
    | succ m ih =>
      intro i τ hi hF
      have t6 : τ 116 = T := by rw [hF.one (by decide), e6]
      have qb := quS_b (T := T) (s := s) i
      have sb := shF_b (T := T) i
      have st := qu_step qb sb
      have nx := fun τ => ih (i + 1) τ (by omega)
      simp only [quS] at nx
      refine b_Mod_quietOf_6 (by omega) ⟨fun z => absurd z (by rw [t6]; omega), fun _ => s_isIn (i32_64 hs) (by omega) ⟨fun e => ?_, fun e => s_showsOf (by omega) (by rw [t6]; exact hT) (by rw [t6]; omega) (fun τ2 hF2 => ?_)⟩⟩
      · have := nx τ hF
        rw [if_pos e] at this
        rw [wid (x := (i : Int) + 1) (by omega) (by omega)]; exact this
      · have := nx τ2 (hF.tr hF2)
        rw [if_neg e] at this
        rw [t6, wid (x := 100 - shF T i) (by omega) (by omega), wid (x := quS T s i * (100 - shF T i)) (by omega) (by omega), wid (x := Int.tdiv (quS T s i * (100 - shF T i)) 100) (by omega) (by omega), wid (x := (i : Int) + 1) (by omega) (by omega)]
        exact this
  exact c_Mod_quietOf (b_Mod_quietOf_0 (loop (T 4).toNat 0 σ (by omega) Fr.rf))
end
theorem sp30 : SP30 II := by
  intro E σ s hI hR hs
  obtain ⟨T, f, e6, hT, hH, hP, hc2, hS, hM, hf, hTr, hPa⟩ := hI.ex
  have t4 := hT.2.2.2.1
  have p3 : σ 2 3 = T 4 := hP.2.2.1
  have e0 : up σ 115 0 0 116 = T := by rw [up_cell (by decide), e6]
  refine c_BC_quiet (b_BC_quiet_0 (by omega) (s_Room_hasSet (by omega) (by omega) (fun hz => ⟨fun z => absurd z (by decide), fun _ => ?_⟩) (fun hz => ⟨fun _ => ?_, fun z => absurd rfl z⟩)))
  · rw [p3] at hz
    refine s_Room_quietOf hT hH hs ?_
    exact c_Mod_quiet (b_Mod_quiet_0 (by omega) (s_isSet (by omega) (by rw [e0]; exact t4) (fun _ => ⟨fun z => absurd z (by decide), fun _ => t_quietOf (by omega) hT e0 hs (fun τ hF => ⟨rfl, hI.thr.rk hF⟩)⟩) (fun z => absurd hz (by rw [e0] at z; exact z))))
  · rw [p3] at hz
    exact c_Mod_quiet (b_Mod_quiet_0 (by omega) (s_isSet (by omega) (by rw [e0]; exact t4) (fun z => absurd z (by rw [e0]; exact hz)) (fun z => ⟨fun _ => ⟨rfl, hI.thr⟩, fun y => absurd rfl y⟩)))
theorem sub_1 : ∀ (L : Fin 7) (r : Fin 64) (i : Fin 64), (ian (i.val : Int) (ixo (ian (2 ^ L.val - 1) (ixo (r.val : Int) (-1))) (-1)) = 0) ↔ ((i.val : Int) ≤ 2 ^ L.val - 1 ∧ ian (i.val : Int) (r.val : Int) = 0) := by decide +kernel
/-- sets of letters that aren't read -/
theorem subs {L r i : Int} (hL : 0 ≤ L ∧ L ≤ 6) (hr : 0 ≤ r ∧ r < 64) (hi : 0 ≤ i ∧ i < 64) : (ian i (ixo (ian (2 ^ L.toNat - 1) (ixo r (-1))) (-1)) = 0) ↔ (i ≤ 2 ^ L.toNat - 1 ∧ ian i r = 0) := by
  have := sub_1 ⟨L.toNat, by omega⟩ ⟨r.toNat, by omega⟩ ⟨i.toNat, by omega⟩
  simp only [show ((r.toNat : Nat) : Int) = r by omega, show ((i.toNat : Nat) : Int) = i by omega] at this
  exact this
theorem pw64 {n : Int} (h : 0 ≤ n ∧ n ≤ 6) : (1 : Int) ≤ 2 ^ n.toNat ∧ (2 : Int) ^ n.toNat ≤ 64 := (p2b n h).1
/-- the safest of the first sets -/
noncomputable def safS (T : Int → Int) (rd n : Int) : Nat → Int
  | 0 => -1
  | i + 1 => if ((i : Int) ≤ 2 ^ (T 4).toNat - 1 ∧ ian i rd = 0) ∧ cnt6 i = n ∧ (safS T rd n i = -1 ∨ quS T (safS T rd n i) (T 4).toNat < quS T i (T 4).toNat) then (i : Int) else safS T rd n i
theorem safS_y {T : Int → Int} {rd n : Int} {i : Nat} (h : ((i : Int) ≤ 2 ^ (T 4).toNat - 1 ∧ ian i rd = 0) ∧ cnt6 i = n ∧ (safS T rd n i = -1 ∨ quS T (safS T rd n i) (T 4).toNat < quS T i (T 4).toNat)) : safS T rd n (i + 1) = i := if_pos h
theorem safS_n {T : Int → Int} {rd n : Int} {i : Nat} (h : ¬ (((i : Int) ≤ 2 ^ (T 4).toNat - 1 ∧ ian i rd = 0) ∧ cnt6 i = n ∧ (safS T rd n i = -1 ∨ quS T (safS T rd n i) (T 4).toNat < quS T i (T 4).toNat))) : safS T rd n (i + 1) = safS T rd n i := if_neg h
theorem safS_r {T : Int → Int} {rd n : Int} : ∀ i : Nat, safS T rd n i = -1 ∨ (0 ≤ safS T rd n i ∧ safS T rd n i < i)
  | 0 => Or.inl rfl
  | i + 1 => by
    simp only [safS]; split
    · exact Or.inr ⟨by omega, by omega⟩
    · rcases safS_r (T := T) (rd := rd) (n := n) i with h | h
      · exact Or.inl h
      · exact Or.inr ⟨h.1, by omega⟩
theorem safS_e {T : Int → Int} (hT : MT T) {rd n : Int} : ∀ i : Nat, 2 ^ (T 4).toNat ≤ i → safS T rd n i = safS T rd n (2 ^ (T 4).toNat)
  | 0, h => absurd h (by have := Nat.two_pow_pos (T 4).toNat; omega)
  | i + 1, h => by
    rcases Nat.lt_or_ge i (2 ^ (T 4).toNat) with q | q
    · rw [show i + 1 = 2 ^ (T 4).toNat by omega]
    · rw [← safS_e hT (rd := rd) (n := n) i q]
      have cst : ((2 ^ (T 4).toNat : Nat) : Int) = 2 ^ (T 4).toNat := by norm_cast
      show (if _ then _ else _) = _
      rw [if_neg (fun z => by have := z.1.1; omega)]
theorem sp31 : SP31 II := by
  intro E σ n hI hR hn
  obtain ⟨T, f, e6, hT, hH, hP, hc2, hS, hM, hf, hTr, hPa⟩ := hI.ex
  have t4 := hT.2.2.2.1
  have pw := pw64 t4
  have p3 : σ 2 3 = T 4 := hP.2.2.1
  have e0 : up σ 115 0 0 116 = T := by rw [up_cell (by decide), e6]
  have cst : ((2 ^ (T 4).toNat : Nat) : Int) = 2 ^ (T 4).toNat := by norm_cast
  have rd := hM.at.1
  rw [e6] at rd
  have M3 : ¬ (0 ≤ n ∧ n ≤ 6) → CI E y_Mod_safest 400 [vr 115, vi n] σ (fun y υ => -3 = y ∧ II υ) := fun h0 =>
    c_Mod_safest (b_Mod_safest_0 (by omega) (s_within (fun z => absurd z h0) (fun z => ⟨fun y => absurd rfl y, fun _ => ⟨rfl, hI.thr⟩⟩)))
  refine c_BC_safest (b_BC_safest_0 (by omega) ⟨fun a => M3 (by omega), fun a => ⟨fun b => s_Room_allLetters (Or.inl rfl) (by omega) ?_, fun b => M3 (by omega)⟩⟩)
  rw [p3, hS.1]
  have M : CI E y_Mod_safest 400 [vr 115, vi n] σ (fun y υ => safS T (f 0) n 64 = y ∧ II υ) := by
    refine c_Mod_safest (b_Mod_safest_0 (by omega) (s_within (fun z => ⟨fun _ => ?_, fun y => absurd y (by decide)⟩) (fun z => absurd ⟨a, b⟩ z)))
    have loop : ∀ (m i : Nat) (τ : Mem), (i : Int) + m = 2 ^ (T 4).toNat → Fr [120] (up σ 115 0 0) τ → Z E y_Mod_safest 400 24 [some (vr 115), some (vi n), some (vi (safS T (f 0) n i)), some (vi (i : Int))] [] τ (qi fun y υ => safS T (f 0) n 64 = y ∧ II υ) := by
      intro m
      induction m with
      | zero =>
        intro i τ hi hF
        have t6 : τ 116 = T := by rw [hF.one (by decide), e0]
        refine b_Mod_safest_24 (by omega) (s_letters (by rw [t6]; exact t4) ⟨fun _ => ⟨?_, hI.thr.rk hF⟩, fun z => absurd z (by rw [t6]; omega)⟩)
        have : i = 2 ^ (T 4).toNat := by omega
        rw [this]; exact safS_e hT 64 (by omega)
      | succ m ih =>
        intro i τ hi hF
        have t6 : τ 116 = T := by rw [hF.one (by decide), e0]
        have nx := fun τ => ih (i + 1) τ (by omega)
        refine b_Mod_safest_24 (by omega) (s_letters (by rw [t6]; exact t4) ⟨fun z => absurd z (by rw [t6]; omega), fun _ => ?_⟩)
        rw [t6, rd, wid (x := (i : Int) + 1) (by omega) (by omega)]
        refine ⟨fun e => ?_, fun e => s_bitsOf (by omega) ⟨fun e2 => ?_, fun e2 => ⟨fun e3 => ?_, fun e3 => ?_⟩⟩⟩
        · have := nx τ hF; rw [safS_n (fun z => e z.1.2)] at this; exact this
        · have := nx τ hF; rw [safS_n (fun z => e2 z.2.1)] at this; exact this
        · have := nx τ hF; rw [safS_y ⟨⟨by omega, e⟩, e2, Or.inl e3⟩] at this; exact this
        · have rr := safS_r (T := T) (rd := f 0) (n := n) i
          refine t_quietOf (by omega) hT t6 (by unfold i32; omega) (fun τ2 hF2 => ?_)
          have t7 : τ2 116 = T := by rw [hF2.one (by decide), t6]
          refine t_quietOf (by omega) hT t7 (by unfold i32; omega) (fun τ3 hF3 => ?_)
          have := nx τ3 ((hF.tr hF2).tr hF3)
          refine ⟨fun hle => ?_, fun hlt => ?_⟩
          · rw [safS_n (fun z => z.2.2.elim e3 (fun y => absurd y (Int.not_lt.mpr hle)))] at this; exact this
          · rw [safS_y ⟨⟨by omega, e⟩, e2, Or.inr hlt⟩] at this; exact this
    exact loop (2 ^ (T 4).toNat) 0 _ (by omega) Fr.rf
  have loop : ∀ (m i : Nat) (a4 : Int), (i : Int) + m = 64 → a4 = (if safS T (f 0) n i = -1 then -1 else quS T (safS T (f 0) n i) (T 4).toNat) → Z E y_BC_safest 400 39 [some (vr 0), some (vi n), some (vi (ian (2 ^ (T 4).toNat - 1) (ixo (f 0) (-1)))), some (vi (safS T (f 0) n i)), some (vi a4), some (vi (i : Int))] [] σ (qi fun x τ => CI E y_Mod_safest 400 [vr 115, vi n] τ (fun y υ => x = y ∧ II υ)) := by
    intro m
    induction m with
    | zero =>
      intro i a4 hi h4
      refine b_BC_safest_39 (by omega) ⟨fun _ => ?_, fun z => absurd z (by omega)⟩
      rw [show i = 64 by omega]; exact M
    | succ m ih =>
      intro i a4 hi h4
      have nx := fun a4 => ih (i + 1) a4 (by omega)
      have sb := subs t4 hf.1 (i := (i : Int)) (by omega)
      have qb := quS_b (T := T) (s := (i : Int)) (T 4).toNat
      refine b_BC_safest_39 (by omega) ⟨fun z => absurd z (by omega), fun _ => ?_⟩
      rw [wid (x := (i : Int) + 1) (by omega) (by omega)]
      refine ⟨fun e => ?_, fun e => s_bitCount ?_⟩
      · have := nx a4; rw [safS_n (fun z => e (sb.mpr z.1))] at this; exact this h4
      · rw [bc6 (by omega)]
        refine ⟨fun e2 => ?_, fun e2 => s_Room_quietOf hT hH (by unfold i32; omega) ⟨fun e3 => ?_, fun e3 => s_Room_quietOf hT hH (by unfold i32; omega) ?_⟩⟩
        · have := nx a4; rw [safS_n (fun z => e2 z.2.1)] at this; exact this h4
        · have hc : ¬ (((i : Int) ≤ 2 ^ (T 4).toNat - 1 ∧ ian i (f 0) = 0) ∧ cnt6 i = n ∧ (safS T (f 0) n i = -1 ∨ quS T (safS T (f 0) n i) (T 4).toNat < quS T i (T 4).toNat)) := by
            rintro ⟨-, -, z | z⟩
            · rw [if_pos z] at h4; omega
            · by_cases y : safS T (f 0) n i = -1
              · rw [if_pos y] at h4; omega
              · rw [if_neg y] at h4; omega
          have := nx a4; rw [safS_n hc] at this; exact this h4
        · have hc : (((i : Int) ≤ 2 ^ (T 4).toNat - 1 ∧ ian i (f 0) = 0) ∧ cnt6 i = n ∧ (safS T (f 0) n i = -1 ∨ quS T (safS T (f 0) n i) (T 4).toNat < quS T i (T 4).toNat)) := by
            refine ⟨sb.mp e, e2, ?_⟩
            by_cases y : safS T (f 0) n i = -1
            · exact Or.inl y
            · rw [if_neg y] at h4; exact Or.inr (by omega)
          have := nx (quS T i (T 4).toNat); rw [safS_y hc] at this
          exact this (by rw [if_neg (by omega)])
  exact loop 64 0 (-1) (by omega) (by simp [safS])
/-- the boldest of the first sets -/
noncomputable def bolS (T : Int → Int) (rd q : Int) : Nat → Int
  | 0 => 0
  | i + 1 => if ((i : Int) ≤ 2 ^ (T 4).toNat - 1 ∧ ian i rd = 0) ∧ q ≤ quS T i (T 4).toNat ∧ woS T (bolS T rd q i) (T 4).toNat < woS T i (T 4).toNat then (i : Int) else bolS T rd q i
theorem bolS_y {T : Int → Int} {rd q : Int} {i : Nat} (h : ((i : Int) ≤ 2 ^ (T 4).toNat - 1 ∧ ian i rd = 0) ∧ q ≤ quS T i (T 4).toNat ∧ woS T (bolS T rd q i) (T 4).toNat < woS T i (T 4).toNat) : bolS T rd q (i + 1) = i := if_pos h
theorem bolS_n {T : Int → Int} {rd q : Int} {i : Nat} (h : ¬ (((i : Int) ≤ 2 ^ (T 4).toNat - 1 ∧ ian i rd = 0) ∧ q ≤ quS T i (T 4).toNat ∧ woS T (bolS T rd q i) (T 4).toNat < woS T i (T 4).toNat)) : bolS T rd q (i + 1) = bolS T rd q i := if_neg h
theorem bolS_r {T : Int → Int} {rd q : Int} : ∀ i : Nat, 0 ≤ bolS T rd q i ∧ bolS T rd q i ≤ i
  | 0 => by simp [bolS]
  | i + 1 => by
    have := bolS_r (T := T) (rd := rd) (q := q) i
    simp only [bolS]; split <;> omega
theorem bolS_1 {T : Int → Int} {rd q : Int} : bolS T rd q 1 = 0 := by
  show (if _ then _ else _) = _
  split
  · rfl
  · rfl
theorem bolS_e {T : Int → Int} (hT : MT T) {rd n : Int} : ∀ i : Nat, 2 ^ (T 4).toNat ≤ i → bolS T rd n i = bolS T rd n (2 ^ (T 4).toNat)
  | 0, h => absurd h (by have := Nat.two_pow_pos (T 4).toNat; omega)
  | i + 1, h => by
    rcases Nat.lt_or_ge i (2 ^ (T 4).toNat) with q | q
    · rw [show i + 1 = 2 ^ (T 4).toNat by omega]
    · rw [← bolS_e hT (rd := rd) (n := n) i q]
      have cst : ((2 ^ (T 4).toNat : Nat) : Int) = 2 ^ (T 4).toNat := by norm_cast
      show (if _ then _ else _) = _
      rw [if_neg (fun z => by have := z.1.1; omega)]
theorem sp32 : SP32 II := by
  intro E σ n hI hR hn
  obtain ⟨T, f, e6, hT, hH, hP, hc2, hS, hM, hf, hTr, hPa⟩ := hI.ex
  have t4 := hT.2.2.2.1
  have pw := pw64 t4
  have p3 : σ 2 3 = T 4 := hP.2.2.1
  have e0 : up σ 115 0 0 116 = T := by rw [up_cell (by decide), e6]
  have cst : ((2 ^ (T 4).toNat : Nat) : Int) = 2 ^ (T 4).toNat := by norm_cast
  have rd := hM.at.1
  rw [e6] at rd
  have M3 : ¬ (0 ≤ n ∧ n ≤ 10000) → CI E y_Mod_bold 400 [vr 115, vi n] σ (fun y υ => -3 = y ∧ II υ) := fun h0 =>
    c_Mod_bold (b_Mod_bold_0 (by omega) (s_within (fun z => absurd z h0) (fun z => ⟨fun y => absurd rfl y, fun _ => ⟨rfl, hI.thr⟩⟩)))
  refine c_BC_bold (b_BC_bold_0 (by omega) ⟨fun a => M3 (by omega), fun a => ⟨fun b => s_Room_allLetters (Or.inl rfl) (by omega) ?_, fun b => M3 (by omega)⟩⟩)
  rw [p3, hS.1]
  have M : CI E y_Mod_bold 400 [vr 115, vi n] σ (fun y υ => bolS T (f 0) n 64 = y ∧ II υ) := by
    refine c_Mod_bold (b_Mod_bold_0 (by omega) (s_within (fun z => ⟨fun _ => ?_, fun y => absurd y (by decide)⟩) (fun z => absurd ⟨a, b⟩ z)))
    have loop : ∀ (m i : Nat) (τ : Mem), (i : Int) + m = 2 ^ (T 4).toNat → Fr [120] (up σ 115 0 0) τ → Z E y_Mod_bold 400 24 [some (vr 115), some (vi n), some (vi (bolS T (f 0) n i)), some (vi (i : Int))] [] τ (qi fun y υ => bolS T (f 0) n 64 = y ∧ II υ) := by
      intro m
      induction m with
      | zero =>
        intro i τ hi hF
        have t6 : τ 116 = T := by rw [hF.one (by decide), e0]
        refine b_Mod_bold_24 (by omega) (s_letters (by rw [t6]; exact t4) ⟨fun _ => ⟨?_, hI.thr.rk hF⟩, fun z => absurd z (by rw [t6]; omega)⟩)
        have : i = 2 ^ (T 4).toNat := by omega
        rw [this]; exact bolS_e hT 64 (by omega)
      | succ m ih =>
        intro i τ hi hF
        have t6 : τ 116 = T := by rw [hF.one (by decide), e0]
        have nx := fun τ => ih (i + 1) τ (by omega)
        have br := bolS_r (T := T) (rd := f 0) (q := n) i
        refine b_Mod_bold_24 (by omega) (s_letters (by rw [t6]; exact t4) ⟨fun z => absurd z (by rw [t6]; omega), fun _ => ?_⟩)
        rw [t6, rd, wid (x := (i : Int) + 1) (by omega) (by omega)]
        refine ⟨fun e => ?_, fun e => t_quietOf (by omega) hT t6 (by unfold i32; omega) (fun τ2 hF2 => ⟨fun e2 => ?_, fun e2 => ?_⟩)⟩
        · have := nx τ hF; rw [bolS_n (fun z => e z.1.2)] at this; exact this
        · have := nx τ2 (hF.tr hF2); rw [bolS_n (fun z => absurd z.2.1 (Int.not_le.mpr e2))] at this; exact this
        · have t7 : τ2 116 = T := by rw [hF2.one (by decide), t6]
          refine s_Mod_worthOf (by omega) (by rw [t7]; exact hT) (by unfold i32; omega) (s_Mod_worthOf (by omega) (by rw [t7]; exact hT) (by unfold i32; omega) ?_)
          rw [t7]
          have := nx τ2 (hF.tr hF2)
          refine ⟨fun hle => ?_, fun hlt => ?_⟩
          · rw [bolS_n (fun z => absurd z.2.2 (Int.not_lt.mpr hle))] at this; exact this
          · rw [bolS_y ⟨⟨by omega, e⟩, e2, hlt⟩] at this; exact this
    have b1 := bolS_1 (T := T) (rd := f 0) (q := n)
    have := loop (2 ^ (T 4).toNat - 1) 1 (up σ 115 0 0) (by omega) Fr.rf
    rw [b1] at this; exact this
  have loop : ∀ (m i : Nat) (a4 : Int), (i : Int) + m = 64 → a4 = (if i = 0 then -1 else woS T (bolS T (f 0) n i) (T 4).toNat) → Z E y_BC_bold 400 40 [some (vr 0), some (vi n), some (vi (ian (2 ^ (T 4).toNat - 1) (ixo (f 0) (-1)))), some (vi (bolS T (f 0) n i)), some (vi a4), some (vi (i : Int))] [] σ (qi fun x τ => CI E y_Mod_bold 400 [vr 115, vi n] τ (fun y υ => x = y ∧ II υ)) := by
    intro m
    induction m with
    | zero =>
      intro i a4 hi h4
      refine b_BC_bold_40 (by omega) ⟨fun _ => ?_, fun z => absurd z (by omega)⟩
      rw [show i = 64 by omega]; exact M
    | succ m ih =>
      intro i a4 hi h4
      have sb := subs t4 hf.1 (i := (i : Int)) (by omega)
      refine b_BC_bold_40 (by omega) ⟨fun z => absurd z (by omega), fun _ => ?_⟩
      by_cases i0 : i = 0
      · subst i0
        have n1 := ih 1 0 (by omega) (by rw [if_neg (by decide), bolS_1, woS_0])
        rw [bolS_1] at n1
        rw [if_pos rfl] at h4
        refine ⟨fun e => absurd (sb.mpr ⟨by show (0 : Int) ≤ 2 ^ (T 4).toNat - 1; omega, ?_⟩) e, fun e => s_Room_quietOf hT hH (by unfold i32; omega) ⟨fun e2 => ?_, fun e2 => s_Room_worthOf (by omega) hT hH (by unfold i32; omega) ⟨fun e3 => ?_, fun e3 => s_Room_worthOf (by omega) hT hH (by unfold i32; omega) ?_⟩⟩⟩
        · have z0 : ∀ r : Fin 64, ian (0 : Int) (r.val : Int) = 0 := by decide +kernel
          have := z0 ⟨(f 0).toNat, by have := hf.1; omega⟩
          simp only [show (((f 0).toNat : Nat) : Int) = f 0 by have := hf.1; omega] at this
          exact this
        · have : quS T ((0 : Nat) : Int) (T 4).toNat = 10000 := quS_0 _
          rw [this] at e2; omega
        · have : woS T ((0 : Nat) : Int) (T 4).toNat = 0 := woS_0 _
          rw [this] at e3; omega
        · have : woS T ((0 : Nat) : Int) (T 4).toNat = 0 := woS_0 _
          rw [this]
          exact n1
      · have nx := fun a4 => ih (i + 1) a4 (by omega)
        rw [if_neg i0] at h4
        rw [wid (x := (i : Int) + 1) (by omega) (by omega)]
        refine ⟨fun e => ?_, fun e => s_Room_quietOf hT hH (by unfold i32; omega) ⟨fun e2 => ?_, fun e2 => s_Room_worthOf (by omega) hT hH (by unfold i32; omega) ⟨fun e3 => ?_, fun e3 => s_Room_worthOf (by omega) hT hH (by unfold i32; omega) ?_⟩⟩⟩
        · have := nx a4; rw [bolS_n (fun z => e (sb.mpr z.1))] at this; exact this h4
        · have := nx a4; rw [bolS_n (fun z => absurd z.2.1 (Int.not_le.mpr e2))] at this; exact this h4
        · have := nx a4; rw [bolS_n (fun z => absurd z.2.2 (by rw [← h4]; exact Int.not_lt.mpr e3))] at this; exact this h4
        · have := nx (woS T i (T 4).toNat); rw [bolS_y ⟨sb.mp e, e2, by rw [← h4]; exact e3⟩] at this
          exact this (by rw [if_neg (by omega)])
  exact loop 64 0 (-1) (by omega) rfl
