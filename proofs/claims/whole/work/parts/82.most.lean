/-! the planner: mostWorth, hasWantedWorth -/
theorem woS_bs {T : Int → Int} {s : Int} : ∀ n : Nat, woS T s n = bs (fun k => T (55 + k)) s n
  | 0 => rfl
  | n + 1 => by show woS T s n + _ = bs (fun k => T (55 + k)) s n + _; rw [woS_bs n]
theorem wo_row {T : Int → Int} (hT : MT T) {R : RL} (h : RV T R) : woS T (tkn R) (T 4).toNat = wor T R := by
  rw [woS_bs, bs_row hT h]
  have : ∀ L : RL, L.foldr (fun x a => a + T (55 + x.1)) 0 = wor T L := fun L => by
    induction L with
    | nil => rfl
    | cons x L ih => show L.foldr (fun x a => a + T (55 + x.1)) 0 + _ = _; rw [ih]; rfl
  exact this R
theorem sub6_1 : ∀ (a b : Fin 64), (ian (a.val : Int) (ixo (b.val : Int) (-1)) = 0) ↔ ∀ j : Fin 6, bt (a.val : Int) (j.val : Int) = 1 → bt (b.val : Int) (j.val : Int) = 1 := by decide +kernel
theorem sub6 {a b : Int} (ha : 0 ≤ a ∧ a < 64) (hb : 0 ≤ b ∧ b < 64) : (ian a (ixo b (-1)) = 0) ↔ ∀ j : Int, 0 ≤ j → j < 6 → bt a j = 1 → bt b j = 1 := by
  have := sub6_1 ⟨a.toNat, by omega⟩ ⟨b.toNat, by omega⟩
  simp only [show ((a.toNat : Nat) : Int) = a by omega, show ((b.toNat : Nat) : Int) = b by omega] at this
  rw [this]
  refine ⟨fun h j j0 j1 jb => ?_, fun h j jb => h j.val (by omega) (by have := j.isLt; omega) jb⟩
  have := h ⟨j.toNat, by omega⟩
  simp only [show ((j.toNat : Nat) : Int) = j by omega] at this
  exact this jb
/-- M are the letters that are there and not in rd -/
def Opn (T : Int → Int) (rd M : Int) : Prop := (0 ≤ M ∧ M < 64) ∧ ∀ j : Int, 0 ≤ j → j < 6 → (bt M j = 1 ↔ j < T 4 ∧ bt rd j = 0)
theorem allL_1 : ∀ (L : Fin 7), (0 ≤ (2 : Int) ^ L.val - 1 ∧ (2 : Int) ^ L.val - 1 < 64) ∧ ∀ j : Fin 6, (bt (2 ^ L.val - 1) (j.val : Int) = 1 ↔ (j.val : Int) < (L.val : Int)) := by decide +kernel
theorem allL {L : Int} (hL : 0 ≤ L ∧ L ≤ 6) : (0 ≤ (2 : Int) ^ L.toNat - 1 ∧ (2 : Int) ^ L.toNat - 1 < 64) ∧ ∀ j : Int, 0 ≤ j → j < 6 → (bt (2 ^ L.toNat - 1) j = 1 ↔ j < L) := by
  have := allL_1 ⟨L.toNat, by omega⟩
  simp only [show ((L.toNat : Nat) : Int) = L by omega] at this
  refine ⟨this.1, fun j j0 j1 => ?_⟩
  have := this.2 ⟨j.toNat, by omega⟩
  simp only [show ((j.toNat : Nat) : Int) = j by omega] at this
  exact this
theorem Opn.mk {T : Int → Int} (hT : MT T) {rd : Int} (hr : 0 ≤ rd ∧ rd < 64) : Opn T rd (ian (2 ^ (T 4).toNat - 1) (ixo rd (-1))) := by
  have a := allL hT.2.2.2.1
  refine ⟨bnot_lt a.1 hr, fun j j0 j1 => ?_⟩
  rw [bnot a.1 hr ⟨j0, j1⟩]
  by_cases c : bt (2 ^ (T 4).toNat - 1) j = 1 ∧ bt rd j = 0
  · rw [if_pos c]; exact ⟨fun _ => ⟨(a.2 j j0 j1).mp c.1, c.2⟩, fun _ => rfl⟩
  · rw [if_neg c]; exact ⟨fun z => absurd z (by decide), fun z => absurd ⟨(a.2 j j0 j1).mpr z.1, z.2⟩ c⟩
theorem Opn.sub {T : Int → Int} (hT : MT T) {rd M A : Int} (h : Opn T rd M) {R : RL} (hR : RO T A R) : ian (tkn R) (ixo M (-1)) = 0 ↔ ∀ x ∈ R, bt rd x.1 = 0 := by
  have i := in63.of hT hR.1
  rw [sub6 (tkn_lt (fun x hx => (i x hx).1)) h.1]
  constructor
  · intro q x hx
    have k6 := (i x hx).1
    have := q x.1 k6.1 k6.2 ((tkn_bt i k6).mpr ⟨x, hx, rfl⟩)
    exact ((h.2 x.1 k6.1 k6.2).mp this).2
  · intro q j j0 j1 jb
    obtain ⟨x, x1, x2⟩ := (tkn_bt i ⟨j0, j1⟩).mp jb
    refine (h.2 j j0 j1).mpr ⟨?_, ?_⟩
    · rw [← x2]; exact (hR.1.mem x x1).1.2
    · rw [← x2]; exact q x x1
/-- a set that can be read by noon is the set of a row that can be -/
theorem can_set {T : Int → Int} (hT : MT T) {rd M A noon S v : Int} (hM : Opn T rd M) (hn : noon ≤ 999) (hs : ian S (ixo M (-1)) = 0) (hv : IsSoon T A S v) (hle : v ≤ noon) : ∃ R, CanB T rd A noon R ∧ tkn R = S ∧ endV (gM T) R = v := by
  rcases hv.2.1 with e | ⟨R, a, b, c⟩
  · omega
  · refine ⟨R, ⟨a, (hM.sub hT a).mp (by rw [b]; exact hs), by omega⟩, b, c⟩
theorem set_can {T : Int → Int} (hT : MT T) {rd M A noon S v : Int} (hM : Opn T rd M) (hv : IsSoon T A S v) {R : RL} (h : CanB T rd A noon R) (e : tkn R = S) : ian S (ixo M (-1)) = 0 ∧ v ≤ noon := by
  refine ⟨by rw [← e]; exact (hM.sub hT h.1).mpr h.2.1, ?_⟩
  have := hv.2.2 R h.1 e
  have := h.2.2
  omega
/-- w is the most worth -/
def MWo (T : Int → Int) (rd A noon w : Int) : Prop := (∃ R, CanB T rd A noon R ∧ wor T R = w) ∧ ∀ R, CanB T rd A noon R → wor T R ≤ w
theorem MWo.best {T : Int → Int} {rd A noon w : Int} (h : MWo T rd A noon w) {B : RL} (hB : IsBest T rd A noon B) : wor T B = w := by
  obtain ⟨⟨R, a, b⟩, c⟩ := h
  have := c B hB.1
  have := hB.2 R a
  omega
section
variable {E : EN} {T : Int → Int} {d : Nat} {σ : Mem}
theorem s_Plan_mostWorth {K : Int → Mem → Prop} {A rd M noon : Int} (hd : 3 ≤ d) (hT : MT T) (hA : 0 ≤ A ∧ A < 8) (hP : PE T A 64 σ) (hM : Opn T rd M) (hn : 0 ≤ noon ∧ noon ≤ 999) (q : ∀ w, MWo T rd A noon w → K w σ) : CI E y_Plan_mostWorth d [vr 92, vi M, vi noon] σ K := by
  refine c_Plan_mostWorth (b_Plan_mostWorth_0 ?_)
  have loop : ∀ (n : Nat) (s w : Int), 0 ≤ s → s + n = 64 → (∃ R, CanB T rd A noon R ∧ wor T R = w) → (∀ R, CanB T rd A noon R → tkn R < s → wor T R ≤ w) → Z E y_Plan_mostWorth d 5 [some (vr 92), some (vi M), some (vi noon), some (vi w), some (vi s)] [] σ (qi K) := by
    intro n
    induction n with
    | zero =>
      intro s w s0 hs h1 h2
      exact b_Plan_mostWorth_5 (by omega) ⟨fun _ => q w ⟨h1, fun R hR => h2 R hR (by have := (RV.cnt hT hR.1.1).1; omega)⟩, fun z => absurd z (by omega)⟩
    | succ n ih =>
      intro s w s0 hs h1 h2
      have hv := hP.2.2.2 s s0 (by omega)
      refine b_Plan_mostWorth_5 (by omega) ⟨fun z => absurd z (by omega), fun _ => ?_⟩
      rw [wid (x := s + 1) (by omega) (by omega)]
      have skip : (∀ R, CanB T rd A noon R → tkn R ≠ s) → Z E y_Plan_mostWorth d 5 [some (vr 92), some (vi M), some (vi noon), some (vi w), some (vi (s + 1))] [] σ (qi K) := fun hno => ih (s + 1) w (by omega) (by omega) h1 (fun R hR hlt => h2 R hR (by have := hno R hR; omega))
      refine ⟨fun ne => skip (fun R hR e => ne (set_can hT hM hv.1 hR e).1), fun e => s_Plan_soonest hA hP.2.1 ⟨s0, by omega⟩ ⟨fun lt => skip (fun R hR e => by have := (set_can hT hM hv.1 hR e).2; omega), fun le => s_Room_worthOf (by omega) hT hP.1 (by unfold i32; omega) (s_Math_max ?_)⟩⟩
      obtain ⟨R0, r1, r2, r3⟩ := can_set hT hM hn.2 e hv.1 le
      have wr : woS T s (T 4).toNat = wor T R0 := by rw [← r2]; exact wo_row hT r1.1.1
      refine ih (s + 1) _ (by omega) (by omega) ?_ (fun R hR hlt => ?_)
      · rw [wr]
        rcases Int.le_total w (wor T R0) with z | z
        · exact ⟨R0, r1, by omega⟩
        · obtain ⟨R1, a, b⟩ := h1; exact ⟨R1, a, by omega⟩
      · by_cases e2 : tkn R = s
        · rw [← e2, wo_row hT hR.1.1]; omega
        · have := h2 R hR (by omega); omega
  exact loop 64 0 0 (by omega) (by omega) ⟨[], CanB.nil hn.1, rfl⟩ (fun R hR hlt => by have := (RV.cnt hT hR.1.1).1; omega)
theorem s_Plan_hasWantedWorth {K : Int → Mem → Prop} {A rd M w S : Int} (hd : 3 ≤ d) (hT : MT T) (hA : 0 ≤ A ∧ A < 8) (hP : PE T A 64 σ) (h7 : σ 92 7 = M) (h8 : σ 92 8 = w) (hM : Opn T rd M) (hS : 0 ≤ S ∧ S < 64) (k1 : (∃ R, CanB T rd A (T 1) R ∧ tkn R = S ∧ wor T R = w) → K 1 σ) (k0 : (∀ R, CanB T rd A (T 1) R → tkn R = S → wor T R ≠ w) → K 0 σ) : CI E y_Plan_hasWantedWorth d [vr 92, vi S] σ K := by
  have t1 := hT.1
  have p0 : σ 2 0 = T 1 := hP.1.1.1
  have hv := hP.2.2.2 S hS.1 hS.2
  refine c_Plan_hasWantedWorth (b_Plan_hasWantedWorth_0 (by omega) ?_)
  rw [h7]
  refine ⟨fun ne => k0 (fun R hR e => absurd (set_can hT hM hv.1 hR e).1 ne), fun e => s_Plan_soonest hA hP.2.1 hS ?_⟩
  rw [p0]
  refine ⟨fun lt => k0 (fun R hR e => by have := (set_can hT hM hv.1 hR e).2; omega), fun le => s_Room_worthOf (by omega) hT hP.1 (by unfold i32; omega) ?_⟩
  rw [h8]
  obtain ⟨R0, r1, r2, r3⟩ := can_set hT hM (by omega) e hv.1 le
  refine ⟨fun ne => k0 (fun R hR eR eW => ne ?_), fun ew => k1 ⟨R0, r1, r2, ?_⟩⟩
  · rw [← eR, wo_row hT hR.1.1, eW]
  · rw [← ew, ← r2, wo_row hT r1.1.1]
end
