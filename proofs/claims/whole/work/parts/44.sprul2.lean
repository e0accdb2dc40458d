/-! byRule, rule, ruleBy, slept, sleeper -/
theorem ext_1 : ∀ (a b : Fin 64), (∀ j : Fin 6, bt (a.val : Int) (j.val : Int) = bt (b.val : Int) (j.val : Int)) → a = b := by decide +kernel
theorem ext6 {a b : Int} (ha : 0 ≤ a ∧ a < 64) (hb : 0 ≤ b ∧ b < 64) (h : ∀ j : Int, 0 ≤ j → j < 6 → bt a j = bt b j) : a = b := by
  have := ext_1 ⟨a.toNat, by omega⟩ ⟨b.toNat, by omega⟩ (fun j => by
    have := h j.val (by omega) (by have := j.isLt; omega)
    simp only [show ((a.toNat : Nat) : Int) = a by omega, show ((b.toNat : Nat) : Int) = b by omega]
    exact this)
  have e : a.toNat = b.toNat := congrArg Fin.val this
  omega
theorem bn_1 : ∀ (a b : Fin 64) (k : Fin 6), bt (ian (a.val : Int) (ixo (b.val : Int) (-1))) (k.val : Int) = if bt (a.val : Int) (k.val : Int) = 1 ∧ bt (b.val : Int) (k.val : Int) = 0 then 1 else 0 := by decide +kernel
theorem bn_2 : ∀ (a b : Fin 64), 0 ≤ ian (a.val : Int) (ixo (b.val : Int) (-1)) ∧ ian (a.val : Int) (ixo (b.val : Int) (-1)) < 64 := by decide +kernel
theorem bnot {a b k : Int} (ha : 0 ≤ a ∧ a < 64) (hb : 0 ≤ b ∧ b < 64) (hk : 0 ≤ k ∧ k < 6) : bt (ian a (ixo b (-1))) k = if bt a k = 1 ∧ bt b k = 0 then 1 else 0 := by
  have := bn_1 ⟨a.toNat, by omega⟩ ⟨b.toNat, by omega⟩ ⟨k.toNat, by omega⟩
  simp only [show ((a.toNat : Nat) : Int) = a by omega, show ((k.toNat : Nat) : Int) = k by omega, show ((b.toNat : Nat) : Int) = b by omega] at this
  exact this
theorem bnot_lt {a b : Int} (ha : 0 ≤ a ∧ a < 64) (hb : 0 ≤ b ∧ b < 64) : 0 ≤ ian a (ixo b (-1)) ∧ ian a (ixo b (-1)) < 64 := by
  have := bn_2 ⟨a.toNat, by omega⟩ ⟨b.toNat, by omega⟩
  simp only [show ((a.toNat : Nat) : Int) = a by omega, show ((b.toNat : Nat) : Int) = b by omega] at this
  exact this
theorem mornS_bt {T : Int → Int} {a : Int → Int} (ha : ∀ p, 0 ≤ a p ∧ a p < 6) {s0 : Int × Int × Int × Int} (h0 : 0 ≤ s0.1 ∧ s0.1 < 64) (h1 : 0 ≤ s0.2.1 ∧ s0.2.1 < 64) {j : Int} (hj : 0 ≤ j ∧ j < 6) : ∀ n : Nat, (bt (mornS T a s0 n).1 j = 1 ↔ bt s0.1 j = 1 ∨ ∃ i : Nat, i < n ∧ a i = j)
  | 0 => ⟨fun h => Or.inl h, fun h => h.elim id (fun ⟨i, z, _⟩ => absurd z (by omega))⟩
  | n + 1 => by
    have ih := mornS_bt (T := T) ha h0 h1 hj n
    simp only [mornS]
    rw [bor (mornS_b (T := T) ha h0 h1 n).1 (ha n) hj]
    by_cases e : j = a n
    · rw [if_pos e]; exact ⟨fun _ => Or.inr ⟨n, by omega, e.symm⟩, fun _ => rfl⟩
    · rw [if_neg e, ih]
      constructor
      · rintro (z | ⟨i, z, w⟩)
        · exact Or.inl z
        · exact Or.inr ⟨i, by omega, w⟩
      · rintro (z | ⟨i, z, w⟩)
        · exact Or.inl z
        · rcases Nat.lt_or_ge i n with y | y
          · exact Or.inr ⟨i, y, w⟩
          · rw [show i = n by omega] at w; exact absurd w.symm e
theorem kAt_ex : ∀ {R : RL} {j : Int}, (∃ i : Nat, i < R.length ∧ kAt R i = j) ↔ ∃ x ∈ R, x.1 = j
  | [], j => ⟨fun ⟨i, h, _⟩ => absurd h (by simp), fun ⟨x, h, _⟩ => by cases h⟩
  | x :: R, j => by
    have ih := kAt_ex (R := R) (j := j)
    constructor
    · rintro ⟨i, hi, e⟩
      simp only [kAt] at e
      split at e
      · exact ⟨x, List.mem_cons_self, e⟩
      · rename_i z
        obtain ⟨y, a, b⟩ := ih.mp ⟨i, by simp only [List.length_cons] at hi; omega, e⟩
        exact ⟨y, List.mem_cons_of_mem _ a, b⟩
    · rintro ⟨y, hy, e⟩
      rcases List.mem_cons.mp hy with rfl | hy
      · exact ⟨R.length, by simp, by simp only [kAt]; rw [if_pos trivial]; exact e⟩
      · obtain ⟨i, a, b⟩ := ih.mpr ⟨y, hy, e⟩
        exact ⟨i, by simp only [List.length_cons]; omega, by simp only [kAt]; rw [if_neg (by omega)]; exact b⟩
theorem new_set {T : Int → Int} {R : RL} (q : in63 R) {rd fd x : Int} (hr : 0 ≤ rd ∧ rd < 64) (hf : 0 ≤ fd ∧ fd < 64) (hn : ∀ y ∈ R, bt rd y.1 = 0) : ian (mornF T R rd fd x).1 (ixo rd (-1)) = tkn R := by
  have b := mornS_b (T := T) (kAt6 q) (s0 := (rd, fd, x, 0)) hr hf R.length
  have tl := tkn_lt (R := R) (fun y hy => (q y hy).1)
  refine ext6 (bnot_lt b.1 hr) tl (fun j j0 j1 => ?_)
  rw [bnot (show 0 ≤ (mornF T R rd fd x).1 ∧ (mornF T R rd fd x).1 < 64 from b.1) hr ⟨j0, j1⟩]
  have k1 := mornS_bt (T := T) (kAt6 q) (s0 := (rd, fd, x, 0)) hr hf (j := j) ⟨j0, j1⟩ R.length
  have k2 := tkn_bt q (j := j) ⟨j0, j1⟩
  rw [kAt_ex] at k1
  have k1 : bt (mornF T R rd fd x).1 j = 1 ↔ bt rd j = 1 ∨ ∃ x ∈ R, x.1 = j := k1
  by_cases e : ∃ y ∈ R, y.1 = j
  · have hz : bt rd j = 0 := by
      obtain ⟨y, a, b⟩ := e
      rw [← b]; exact hn y a
    rw [if_pos ⟨k1.mpr (Or.inr e), hz⟩, k2.mpr e]
  · rw [if_neg (fun z => ?_)]
    · rcases bt_01 (tkn R) j with z | z
      · exact z.symm
      · exact absurd (k2.mp z) e
    · rcases k1.mp z.1 with y | y
      · rw [z.2] at y; exact absurd y (by decide)
      · exact e y
theorem sp11 : SP11 II := by
  intro E σ hI hR
  obtain ⟨T, f, e6, hT, hH, hP, hc2, hS, hM, hf, hTr, hPa⟩ := hI.ex
  have n10 := hPa.2.1
  have t4 := hT.2.2.2.1
  have e62 : σ 116 2 = T 2 := by rw [e6]
  obtain ⟨p0, p1, p3, -⟩ := id hP
  refine c_BC_byRule (b_BC_byRule_0 (by omega) (s_Past_keep (by omega) hPa.c (H := σ 116 2) (f := f) (by rw [e6]; exact hS) (fun τ1 hF1 hC1 => ?_)))
  rw [e62] at hC1
  have t2' : τ1 2 = σ 2 := hF1 2 (by decide)
  have t50 : τ1 50 = σ 50 := hF1 50 (by decide)
  refine s_Room_allLetters (Or.inl rfl) (by rw [t2', p3]; omega) ?_
  have hP1 : HP τ1 T := hP.d91 hF1 (fun c hc => by simp [pasC]; omega)
  have hS1 : ST τ1 50 (T 2) f := hS.fr (fun k _ _ => by rw [t50]) (fun _ _ _ => rfl)
  have s2' : τ1 50 2 = awo T (f 2) := hS1.2.2.1
  rw [s2']
  refine u_ruleRow (rd := f 0) (by omega) hT hP1 (by rw [t2']; exact hc2) (awo_b hT hf.2.2) hf.1 (by rw [t2', p3, hS1.1]) (fun τ2 hF2 hRC => ?_)
  have hRV := ruleF_RV hT (rd := f 0) (aw := awo T (f 2)) (T 4).toNat (by omega)
  generalize hL : ruleF T (f 0) (awo T (f 2)) (T 4).toNat = L at hRC hRV
  have hnr : ∀ y ∈ L, bt (f 0) y.1 = 0 := fun y hy => by rw [← hL] at hy; exact ruleF_rd _ y hy
  refine u_readRow (by omega) stg50 hT (hP1.row hF2) (hS1.fr (fun k _ _ => by rw [hF2 50 (by decide)]) (fun _ _ _ => rfl)) hRV hRC (fun τ3 hF3 _ hS3 => ?_)
  rw [hRC.2.2.1]
  have g : ∀ c, c ∉ rowD → c ∉ 50 :: pasC → τ3 c = σ c := fun c a1 a2 => by
    rw [hF3 c (fun z => by
      rcases List.mem_cons.mp z with rfl | z
      · exact a2 List.mem_cons_self
      · exact a1 (List.mem_cons_of_mem _ z)), hF2 c (fun z => a1 (List.mem_cons_of_mem _ z)), hF1 c (fun z => a2 (List.mem_cons_of_mem _ z))]
  refine c_Mod_byRule (b_Mod_byRule_0 (by omega) (s_keeps (fun τ4 hF4 hw4 => ?_)))
  have m6 : τ4 116 = σ 116 := by rw [hF4.one (by decide), up_cell (by decide), g 116 (by decide) (by decide)]
  refine t_goesRule (by omega) hT (hM.fr m6) hf (fun τ5 hF5 hK5 h55 hS5 _ => ?_)
  rw [hL] at hS5
  have w5 : ∀ k : Int, 0 ≤ k → k < 5 → τ5 126 k = f k := fun k k0 k1 => by rw [hF5 126 (by decide), hw4 k k0 k1, up_nc (by decide), g 116 (by decide) (by decide)]; exact hM.2 k k0 k1
  refine s_notes n10 (hPa.m.fr n10.2 (fun k k0 k1 => by rw [h55 k (by omega), m6])) (f := f) w5 (fun τ6 hF6 ho hPM => ⟨?_, hI.deed2 (T := T) (f := morF T f L) e6 (fun c hc => ?_) (fun k hk => ?_) (fun k hk => ?_) (hC1.fr (fun c c0 c1 c2 => ?_)) hPM (hS3.fr (fun k _ _ => ?_) (fun _ _ _ => rfl)) ⟨fun k k0 hk => ?_, fun k k0 k1 => ?_⟩⟩)
  · rw [ho 79 (by omega), hF6.one (by decide), w5 0 (by decide) (by decide), hS5.at.1]
    exact (new_set (in63.of hT hRV) hf.1 hf.2.1 hnr).symm
  · have n1 : c ∉ rowD ∧ c ∉ 50 :: pasC ∧ c ≠ 116 ∧ c ∉ ruleC ∧ c ≠ 126 ∧ c ≠ 115 := by simp [dee, scrt, pasC, rowD, rowS, ruleC] at hc ⊢; omega
    rw [hF6.one n1.2.2.1, hF5 c n1.2.2.2.1, hF4.one n1.2.2.2.2.1, up_cell n1.2.2.2.2.2, g c n1.1 n1.2.1]
  · rw [hF6.one (by decide), hK5 k (k115 hk).2, hF4.one (by decide), up_nk (k115 hk).1, g 115 (by decide) (by decide)]
  · rw [ho k (by omega), h55 k (by omega), m6]
  · rw [hF6.one (by omega), hF5 c (by simp [ruleC]; omega), hF4.one (by omega), up_cell (by omega), hF3 c (by simp [rowS]; omega), hF2 c (by simp [rowS]; omega)]
  · rw [hF6.one (by decide), hF5 50 (by decide), hF4.one (by decide), up_nc (by decide)]
  · rw [ho k (by omega), h55 k (by omega), m6, e6]
  · rw [ho _ (by omega)]; exact hS5.2 k k0 k1
/-- worth of a set -/
def woS (T : Int → Int) (s : Int) : Nat → Int
  | 0 => 0
  | n + 1 => woS T s n + (if bt s n = 0 then 0 else T (55 + (n : Int)))
theorem woS_b {T : Int → Int} (hT : MT T) {s : Int} : ∀ n : Nat, (n : Int) ≤ T 4 → 0 ≤ woS T s n ∧ woS T s n ≤ 99 * n
  | 0, _ => by simp [woS]
  | n + 1, h => by
    have ih := woS_b hT (s := s) n (by omega)
    have := (hT.2.2.2.2.2.2.2.2.2.1 n (by omega) (by omega)).2.2.2.1
    simp only [woS]
    split <;> omega
section
variable {E : EN} {d : Nat} {σ : Mem} {T : Int → Int}
theorem s_Room_worthOf {K : Int → Mem → Prop} {s : Int} (hd : 2 ≤ d) (hT : MT T) (hP : HR σ 2 T) (hs : i32 s) (q : K (woS T s (T 4).toNat) σ) : CI E y_Room_worthOf d [vr 2, vi s] σ K := by
  have h2r : isRoom 2 := Or.inl rfl
  have t4 := hT.2.2.2.1
  have p3 : σ 2 3 = T 4 := hP.1.2.2.2.1
  have loop : ∀ (m i : Nat), (i : Int) + m = T 4 → Z E y_Room_worthOf d 4 [some (vr 2), some (vi s), some (vi (woS T s i)), some (vi (i : Int))] [] σ (qi K) := by
    intro m
    induction m with
    | zero =>
      intro i hi
      refine b_Room_worthOf_4 h2r (by omega) ⟨fun _ => ?_, fun z => absurd z (by omega)⟩
      have : i = (T 4).toNat := by omega
      subst this; exact q
    | succ m ih =>
      intro i hi
      have wb := woS_b hT (s := s) i (by omega)
      have tb := (hT.2.2.2.2.2.2.2.2.2.1 i (by omega) (by omega)).2.2.2.1
      refine b_Room_worthOf_4 h2r (by omega) ⟨fun z => absurd z (by omega), fun _ => ?_⟩
      rw [bit_eq hs (by omega), wid (x := (i : Int) + 1) (by omega) (by omega)]
      have nx := ih (i + 1) (by omega)
      simp only [woS] at nx
      refine ⟨fun e => ?_, fun e => s_Room_fact (by omega) h2r (by omega) (by omega) (by omega) ?_⟩
      · rw [if_pos e, Int.add_zero] at nx; exact nx
      · have e5 : σ (2 + 4) (7 * (i : Int) + 3) = T (55 + (i : Int)) := by
          rw [hP.2.2.2.1 i 3 (by omega) (by omega) (by omega) (by omega)]; congr 1
        rw [e5, wid (by omega) (by omega)]
        rw [if_neg e] at nx; exact nx
  exact c_Room_worthOf (b_Room_worthOf_0 h2r (loop (T 4).toNat 0 (by omega)))
theorem s_Mod_worthOf {K : Int → Mem → Prop} {s : Int} (hd : 2 ≤ d) (hT : MT (σ 116)) (hs : i32 s) (q : K (woS (σ 116) s (σ 116 4).toNat) σ) : CI E y_Mod_worthOf d [vr 115, vi s] σ K := by
  have t4 := hT.2.2.2.1
  have loop : ∀ (m i : Nat), (i : Int) + m = σ 116 4 → Z E y_Mod_worthOf d 4 [some (vr 115), some (vi s), some (vi (woS (σ 116) s i)), some (vi (i : Int))] [] σ (qi K) := by
    intro m
    induction m with
    | zero =>
      intro i hi
      refine b_Mod_worthOf_4 (by omega) ⟨fun _ => ?_, fun z => absurd z (by omega)⟩
      have : i = (σ 116 4).toNat := by omega
      rw [this]; exact q
    | succ m ih =>
      intro i hi
      have wb := woS_b hT (s := s) i (by omega)
      have tb := (hT.2.2.2.2.2.2.2.2.2.1 i (by omega) (by omega)).2.2.2.1
      refine b_Mod_worthOf_4 (by omega) ⟨fun z => absurd z (by omega), fun _ => s_isIn (i32_64 hs) (by omega) ?_⟩
      rw [wid (x := (i : Int) + 1) (by omega) (by omega), wid (x := 55 + (i : Int)) (by omega) (by omega)]
      have nx := ih (i + 1) (by omega)
      simp only [woS] at nx
      refine ⟨fun e => ?_, fun e => ⟨by omega, ?_⟩⟩
      · rw [if_pos e] at nx; rw [wid (by omega) (by omega)]; exact nx
      · rw [if_neg e] at nx; rw [wid (by omega) (by omega)]; exact nx
  exact c_Mod_worthOf (b_Mod_worthOf_0 (loop (σ 116 4).toNat 0 (by omega)))
end
theorem TX.ws {T T2 : Int → Int} (x : TX T T2) {s : Int} : ∀ n : Nat, n ≤ 6 → woS T2 s n = woS T s n
  | 0, _ => rfl
  | n + 1, h => by simp only [woS]; rw [TX.ws x n (by omega), x (55 + (n : Int)) (by omega) (by omega)]
/-- the class's row by rule, asked for alone -/
theorem u_rule {E : EN} {d : Nat} {σ : Mem} {T f : Int → Int} {K : Mem → Prop} (hd : 3 ≤ d) (hT : MT T) (hP : HP σ T) (hc2 : 0 ≤ σ 2 2 ∧ σ 2 2 ≤ 4) (hS : ST σ 50 (T 2) f) (q : ∀ τ : Mem, Fr (rowS 73) σ τ → RowC τ 73 (gM T) (ruleF T (f 0) (awo T (f 2)) (T 4).toNat) → K τ) : CV E y_Doer_ruleRow d [vr 91, vi (ian (2 ^ (σ 2 3).toNat - 1) (ixo (σ 50 0) (-1))), vi (σ 50 2)] σ K := by
  have s2' : σ 50 2 = awo T (f 2) := hS.2.2.1
  rw [s2']
  exact u_ruleRow (rd := f 0) hd hT hP hc2 (awo_b hT hS.b.2.2) hS.b.1 (by rw [hP.2.2.1, hS.1]) q
theorem sp26 : SP26 II := by
  intro E σ w hI hR hw
  obtain ⟨T, f, e6, hT, hH, hP, hc2, hS, hM, hf, hTr, hPa⟩ := hI.ex
  have t4 := hT.2.2.2.1
  have p3 : σ 2 3 = T 4 := hP.2.2.1
  refine c_BC_rule (b_BC_rule_0 (by omega) (s_Room_allLetters (Or.inl rfl) (by omega) (u_rule (by omega) hT hP hc2 hS (fun τ hF hRC => ?_))))
  have hFD : Fr rowD σ τ := hF.wk (fun c hc => List.mem_cons_of_mem _ hc)
  have hRV := ruleF_RV hT (rd := f 0) (aw := awo T (f 2)) (T 4).toNat (by omega)
  generalize hL : ruleF T (f 0) (awo T (f 2)) (T 4).toNat = L at hRC hRV
  have tl := (RV.cnt hT hRV).1
  have M : ∀ (τ2 : Mem) (x : Int), Fr rowD σ τ2 → (w = 0 → x = tkn L) → (w = 1 → x = woS T (tkn L) (T 4).toNat) → (w = 2 → x = endV (gM T) L) → (w < 0 ∨ 2 < w → x = -2) → CI E y_Mod_rule 400 [vr 115, vi w] τ2 (fun y υ => x = y ∧ II υ) := by
    intro τ2 x hF2 x0 x1 x2 x3
    have g : ∀ c, c ∉ rowD → c ≠ 115 → up τ2 115 0 0 c = σ c := fun c a1 a2 => by rw [up_cell a2, hF2 c a1]
    refine c_Mod_rule (b_Mod_rule_0 (by omega) (s_within (fun z => ⟨fun _ => ?_, fun y => absurd y (by decide)⟩) (fun z => ⟨fun y => absurd rfl y, fun _ => ⟨x3 (by omega), (hI.row hF2).thr⟩⟩)))
    have m6 : up τ2 115 0 0 116 = σ 116 := g 116 (by decide) (by decide)
    refine s_awake (by rw [m6, e6]; exact hT.2.1) ?_
    have ea := (hM.fr m6).awM
    unfold awM at ea
    rw [ea, (hM.fr m6).at.1]
    refine t_laysRule (by omega) hT (hM.fr m6).1 (by have := hf.1; unfold i64; omega) (awo_b hT hf.2.2) (fun τ3 hF3 hK3 hR3 => ?_)
    rw [hL] at hR3
    have m7 : τ3 116 = σ 116 := by rw [hF3 116 (by decide), m6]
    have hF4 : Fr scrt σ τ3 := ((hF2.wk (by decide)).tr (Fr.rf.up (by decide))).tr (hF3.wk (by decide))
    have k2 : keep [0, 22, 23, 25, 35] σ τ3 := fun k hk => by
      have hk' : k ≠ 0 ∧ k ∉ [22, 23] := by simp at hk ⊢; omega
      rw [hK3 k hk'.2, up_nk hk'.1, hF2 115 (by decide)]
    have fin : II τ3 := hI.m2 hF4 k2
    rw [hR3.2.2.1]
    refine ⟨fun n0 => ⟨fun n1 => ?_, fun n1 => ?_⟩, fun n0 => ⟨x0 n0, fin⟩⟩
    · exact t_mendedBy (by omega) hT (by rw [m7, e6]; exact TX.rf) hRV hR3 (fun τ4 o hF5 _ _ => ⟨x2 (by omega), fin.same (hF5.wk (by decide)) (fun k _ => by rw [hF5 115 (by decide)])⟩)
    · exact s_Mod_worthOf (by omega) (by rw [m7, e6]; exact hT) (by unfold i32; omega) ⟨by rw [m7, e6]; exact x1 n1, fin⟩
  refine ⟨fun a => ?_, fun a => ?_, fun a => ?_, fun a => M τ _ hFD (fun z => by omega) (fun z => by omega) (fun z => by omega) (fun _ => rfl)⟩
  · rw [hRC.2.2.1]; exact M τ _ hFD (fun _ => rfl) (fun z => by omega) (fun z => by omega) (fun z => by omega)
  · rw [hRC.2.2.1]
    refine s_Room_worthOf (by omega) hT (hH.fr (fun c c0 c1 => hF c (rowN (by omega)))) (by unfold i32; omega) ?_
    exact M τ _ hFD (fun z => by omega) (fun _ => rfl) (fun z => by omega) (fun z => by omega)
  · have hP2 := hP.row hF
    refine s_Row_end (Or.inl rfl) (by omega) hP2.2.2.2.1 (hP2.rb hT (by rw [hF 2 (by decide)]; exact hc2)) (RV.in hP2 hT hRV) (Rb_of hT hRV.mem) hRC (fun τ2 hF2 _ => ?_)
    exact M τ2 _ (hFD.tr ((Fr5 hF2).wk (fun c hc => List.mem_cons_of_mem _ hc))) (fun z => by omega) (fun z => by omega) (fun _ => rfl) (fun z => by omega)
/-- by whom a letter is in a row -/
def fndF (R : RL) (k : Int) : Nat → Int → Int
  | 0, _ => -1
  | m + 1, i => if kAt R i = k then hAt R i else fndF R k m (i + 1)
theorem sp27 : SP27 II := by
  intro E σ k hI hR hk
  obtain ⟨T, f, e6, hT, hH, hP, hc2, hS, hM, hf, hTr, hPa⟩ := hI.ex
  have t4 := hT.2.2.2.1
  have p3 : σ 2 3 = T 4 := hP.2.2.1
  have h4 : σ 116 4 = T 4 := by rw [e6]
  have e0 : up σ 115 0 0 116 = σ 116 := up_cell (by decide)
  refine c_BC_ruleBy (b_BC_ruleBy_0 (by omega) (s_Room_hasLetter (Or.inl rfl) (by omega) (fun hl => ⟨fun _ => ?_, fun z => absurd z (by decide)⟩) (fun hl => ⟨fun z => absurd rfl z, fun _ => ?_⟩)))
  · refine s_Room_allLetters (Or.inl rfl) (by omega) (u_rule (by omega) hT hP hc2 hS (fun τ hF hRC => ?_))
    have hFD : Fr rowD σ τ := hF.wk (fun c hc => List.mem_cons_of_mem _ hc)
    have hRV := ruleF_RV hT (rd := f 0) (aw := awo T (f 2)) (T 4).toNat (by omega)
    generalize hL : ruleF T (f 0) (awo T (f 2)) (T 4).toNat = L at hRC hRV
    have M : ∀ x, x = fndF L k L.length 0 → CI E y_Mod_ruleBy 400 [vr 115, vi k] τ (fun y υ => x = y ∧ II υ) := by
      intro x hx
      have g : ∀ c, c ∉ rowD → c ≠ 115 → up τ 115 0 0 c = σ c := fun c a1 a2 => by rw [up_cell a2, hFD c a1]
      have m6 : up τ 115 0 0 116 = σ 116 := g 116 (by decide) (by decide)
      refine c_Mod_ruleBy (b_Mod_ruleBy_0 (by omega) (s_isLetter (by omega) (by rw [m6, h4]; exact t4) (fun z => ⟨fun _ => ?_, fun y => absurd y (by decide)⟩) (fun z => absurd hl (by rw [m6, h4] at z; rw [p3]; exact z))))
      refine s_awake (by rw [m6, e6]; exact hT.2.1) ?_
      have ea := (hM.fr m6).awM
      unfold awM at ea
      rw [ea, (hM.fr m6).at.1]
      refine t_laysRule (by omega) hT (hM.fr m6).1 (by have := hf.1; unfold i64; omega) (awo_b hT hf.2.2) (fun τ3 hF3 hK3 hR3 => ?_)
      rw [hL] at hR3
      have hF4 : Fr scrt σ τ3 := ((hFD.wk (by decide)).tr (Fr.rf.up (by decide))).tr (hF3.wk (by decide))
      have k2 : keep [0, 22, 23, 25, 35] σ τ3 := fun k hk => by
        have hk' : k ≠ 0 ∧ k ∉ [22, 23] := by simp at hk ⊢; omega
        rw [hK3 k hk'.2, up_nk hk'.1, hFD 115 (by decide)]
      have fin : II τ3 := hI.m2 hF4 k2
      have hl6 := hR3.2.1
      have loop : ∀ (m i : Nat), i + m = L.length → x = fndF L k m i → Z E y_Mod_ruleBy 400 34 [some (vr 115), some (vi k), some (vi (i : Int))] [] τ3 (qi fun y υ => x = y ∧ II υ) := by
        intro m
        induction m with
        | zero => exact fun i hi hx => b_Mod_ruleBy_34 ⟨fun _ => ⟨hx, fin⟩, fun z => absurd z (by rw [hR3.1]; omega)⟩
        | succ m ih =>
          intro i hi hx
          have ra := hR3.2.2.2.at i (by omega) (by omega)
          simp only [fndF] at hx
          refine b_Mod_ruleBy_34 ⟨fun z => absurd z (by rw [hR3.1]; omega), fun _ => ⟨by omega, ?_⟩⟩
          rw [ra.1, ra.2.1, wid (x := (i : Int) + 1) (by omega) (by omega)]
          refine ⟨fun e => ?_, fun e => ?_⟩
          · rw [if_neg e] at hx; exact ih (i + 1) (by omega) hx
          · rw [if_pos e] at hx; exact ⟨hx, fin⟩
      exact loop L.length 0 (by omega) hx
    have hl6 := hRC.2.1
    have loop : ∀ (m i : Nat), i + m = L.length → fndF L k m i = fndF L k L.length 0 → Z E y_BC_ruleBy 400 47 [some (vr 0), some (vi k), some (vi (i : Int))] [] τ (qi fun x τ => CI E y_Mod_ruleBy 400 [vr 115, vi k] τ (fun y υ => x = y ∧ II υ)) := by
      intro m
      induction m with
      | zero => exact fun i hi hx => b_BC_ruleBy_47 ⟨fun _ => M _ hx, fun z => absurd z (by rw [hRC.1]; omega)⟩
      | succ m ih =>
        intro i hi hx
        have ra := hRC.2.2.2.1.at i (by omega) (by omega)
        have ra1 : τ 74 i = kAt L i := ra.1
        have ra2 : τ 75 i = hAt L i := ra.2.1
        simp only [fndF] at hx
        refine b_BC_ruleBy_47 ⟨fun z => absurd z (by rw [hRC.1]; omega), fun _ => ⟨fun z => absurd z (by omega), fun _ => ⟨by omega, ?_⟩⟩⟩
        rw [ra1, ra2, wid (x := (i : Int) + 1) (by omega) (by omega)]
        refine ⟨fun e => ?_, fun e => ?_⟩
        · rw [if_neg e] at hx; exact ih (i + 1) (by omega) hx
        · rw [if_pos e] at hx; exact M _ hx
    exact loop L.length 0 (by omega) rfl
  · exact c_Mod_ruleBy (b_Mod_ruleBy_0 (by omega) (s_isLetter (by omega) (by rw [e0, h4]; exact t4) (fun z => absurd z (by rw [e0, h4]; rw [p3] at hl; exact hl)) (fun z => ⟨fun y => absurd rfl y, fun _ => ⟨rfl, hI.thr⟩⟩)))
