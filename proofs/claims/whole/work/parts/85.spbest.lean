/-! best, bestAt, bestBy, noonFor -/
theorem PlanOK.k3 {σ τ : Mem} {T : Int → Int} (h : PlanOK σ T) (e : ∀ k, k ≠ 4 → k ≠ 5 → k ≠ 6 → τ 92 k = σ 92 k) (e2 : τ 95 = σ 95) : PlanOK τ T := by
  unfold PlanOK at h ⊢
  rw [e 10 (by decide) (by decide) (by decide), e 11 (by decide) (by decide) (by decide), e 12 (by decide) (by decide) (by decide), e 13 (by decide) (by decide) (by decide), e 14 (by decide) (by decide) (by decide), e 15 (by decide) (by decide) (by decide), e 16 (by decide) (by decide) (by decide), e2]
  exact h
theorem II.uha {σ τ : Mem} (h : II σ) (hF : Fr uhC σ τ) (hK : ∀ k, k ≠ 4 → k ≠ 5 → k ≠ 6 → τ 92 k = σ 92 k) (h2 : ∀ k, k ≠ 18 → τ 2 k = σ 2 k) (hS : SoonOK τ 2 (σ 116)) : II τ := by
  have hp : PlanOK σ (σ 116) := h.2.2.2.2.2.2.2.2.1
  exact h.pla (hF.wk (by decide)) h2 hS (hp.k3 hK (hF 95 (by decide)))
theorem II.lb {σ τ : Mem} (h : II σ) (hF : Fr gbC σ τ) (hK : keep lbK σ τ) : II τ := h.same (hF.wk (by decide)) (fun k hk => hK k (by simp [lbK] at hk ⊢; omega))
/-- what the planner's calls need -/
def PW (σ : Mem) (T : Int → Int) (rd A : Int) : Prop := σ 116 = T ∧ MT T ∧ HR σ 2 T ∧ SoonOK σ 2 T ∧ PlanOK σ T ∧ T 79 = rd ∧ σ 50 0 = rd ∧ (0 ≤ rd ∧ rd < 64) ∧ ian (2 ^ (T 2).toNat - 1) (ixo (T 81) (-1)) = A ∧ σ 50 2 = A ∧ (0 ≤ A ∧ A < 8) ∧ σ 115 33 = 0
theorem II.pw {σ : Mem} (h : II σ) : ∃ T rd A, PW σ T rd A := by
  obtain ⟨a, b, c, d, f, g, i, j, l, m⟩ := h
  obtain ⟨s0, s1, s2, s3, s4, r0, r1, r2⟩ := d
  refine ⟨σ 116, σ 116 79, _, rfl, a, b, c, l, rfl, s0, r0, rfl, s2, awo_b a r2, m⟩
section
variable {E : EN} {d : Nat} {σ : Mem} {T : Int → Int} {rd A : Int}
theorem t_laysNow {K : Mem → Prop} (hd : 15 ≤ d) (hT : MT T) (e6 : σ 116 = T) (h79 : T 79 = rd) (hrd : 0 ≤ rd ∧ rd < 64) (hAe : ian (2 ^ (T 2).toNat - 1) (ixo (T 81) (-1)) = A) (hA : 0 ≤ A ∧ A < 8) (q : ∀ τ, Fr gbC σ τ → keep lbK σ τ → LB τ T (σ 115 33) rd A (T 1) → K τ) : CV E y_Mod_laysNow d [vr 115] σ K := by
  refine c_Mod_laysNow (b_Mod_laysNow_0 (by omega) (s_awake (by rw [e6]; exact hT.2.1) ?_))
  rw [e6, hAe, h79]
  exact t_laysBest (by omega) hT hrd hA hT.1.1 e6 q
end
noncomputable def bsV (T : Int → Int) (B : RL) (w : Int) : Int := if w = 0 then wor T B else if w = 1 then (B.length : Int) else if w = 2 then tkn B else if w = 3 then endV (gM T) B else -2
theorem m_best {E : EN} {σ : Mem} {T : Int → Int} {rd A w : Int} {B : RL} (hI : II σ) (hW : PW σ T rd A) (hB : IsBest T rd A (T 1) B) : CI E y_Mod_best 400 [vr 115, vi w] σ (fun y υ => bsV T B w = y ∧ II υ) := by
  obtain ⟨e6, hT, hH, hSo, hPl, h79, -, hrd, hAe, -, hA, h33⟩ := hW
  refine c_Mod_best (b_Mod_best_0 (by omega) (s_within (fun hw => ⟨fun _ => ?_, fun z => absurd z (by decide)⟩) (fun hw => ⟨fun z => absurd rfl z, fun _ => ⟨?_, hI.thr⟩⟩)))
  · refine t_laysNow (by omega) hT (by rw [up_cell (by decide), e6]) h79 hrd hAe hA (fun τ hF hK hL => ?_)
    obtain ⟨⟨B2, b1, b2, b3, b4, b5, b6⟩, -⟩ := hL
    have eB := b1.one hB
    subst eB
    have hI2 := hI.thr.lb hF hK
    refine ⟨fun e => ?_, fun ne => ⟨fun n0 => ⟨fun n1 => ⟨?_, hI2⟩, fun e => ⟨?_, hI2⟩⟩, fun e => ⟨?_, hI2⟩⟩⟩
    · have hl := RV.len hT b1.1.1.1
      have loop : ∀ (n i : Nat) (o1 : Option AV), i + n = B2.length → Z E y_Mod_best 400 61 [some (vr 115), o1, some (vi (tkn (suf B2 i))), some (vi (i : Int))] [] τ (qi fun y υ => bsV T B2 w = y ∧ II υ) := by
        intro n
        induction n with
        | zero =>
          intro i o1 hi
          refine b_Mod_best_61 (a1 := 0) ⟨fun _ => ⟨?_, hI2⟩, fun z => absurd z (by rw [b4]; omega)⟩
          rw [show i = B2.length by omega, suf_all]
          unfold bsV; rw [if_neg (by omega), if_neg (by omega), if_pos e]
        | succ n ih =>
          intro i o1 hi
          have s := (suf_at (gM T) B2 i (by omega)).1
          obtain ⟨y, hy, ky, hyy⟩ := kAt_mem b1.1.1.1.mem i (by omega) (by omega)
          have y6 := inM6 hT hy
          refine b_Mod_best_61 (a1 := 0) ⟨fun z => absurd z (by rw [b4]; omega), fun _ => ⟨by omega, ?_⟩⟩
          rw [b6 i (by omega) (by omega), Int.tmod_eq_emod_of_nonneg (by omega), show (10 * hAt B2 i + kAt B2 i) % 10 = kAt B2 i by omega, wid (x := (i : Int) + 1) (by omega) (by omega)]
          have := ih (i + 1) none (by omega)
          rw [s] at this
          exact this
      have l0 := loop B2.length 0 (some (vi w)) (by omega)
      rw [suf_0] at l0
      exact l0
    · unfold bsV; rw [if_neg n0, if_neg n1, if_neg ne, if_pos (by omega)]; exact b5.symm
    · unfold bsV; rw [if_neg n0, if_pos e]; exact b4.symm
    · unfold bsV; rw [if_pos e]; exact b3.symm
  · unfold bsV; rw [if_neg (by omega), if_neg (by omega), if_neg (by omega), if_neg (by omega)]
theorem PW.pl {σ τ : Mem} {T : Int → Int} {rd A : Int} (h : PW σ T rd A) (hF : Fr paC σ τ) (h2 : ∀ k, k ≠ 18 → τ 2 k = σ 2 k) (hS : SoonOK τ 2 T) (hP : PlanOK τ T) : PW τ T rd A := by
  obtain ⟨e6, hT, hH, hSo, hPl, h79, h50, hrd, hAe, h502, hA, h33⟩ := h
  refine ⟨by rw [hF 116 (by decide), e6], hT, hH.fr18 h2 (fun c c0 c1 => hF c (by simp [paC]; omega)), hS, hP, h79, by rw [hF 50 (by decide)]; exact h50, hrd, hAe, by rw [hF 50 (by decide)]; exact h502, hA, by rw [hF 115 (by decide)]; exact h33⟩
theorem PW.uh {σ τ : Mem} {T : Int → Int} {rd A : Int} (h : PW σ T rd A) (hF : Fr uhC σ τ) (hK : ∀ k, k ≠ 4 → k ≠ 5 → k ≠ 6 → τ 92 k = σ 92 k) (h2 : ∀ k, k ≠ 18 → τ 2 k = σ 2 k) (hS : SoonOK τ 2 T) : PW τ T rd A :=
  h.pl (hF.wk (by decide)) h2 hS (h.2.2.2.2.1.k3 hK (hF 95 (by decide)))
theorem sp19 : SP19 II := by
  intro E σ w hI hR hw
  obtain ⟨T, rd, A, hW⟩ := hI.pw
  have hW0 := hW
  obtain ⟨e6, hT, hH, hSo, hPl, h79, h50, hrd, hAe, h502, hA, h33⟩ := hW
  refine c_BC_best (b_BC_best_0 (by omega) ?_)
  rw [h50, h502]
  refine s_Plan_plan (by omega) hT hA hrd hH hSo hPl (fun τ B hF h2 hS2 hP2 hB hD => ?_)
  have hI2 := hI.pla hF h2 (by rw [e6]; exact hS2) (by rw [e6]; exact hP2)
  have hW2 := hW0.pl hF h2 hS2 hP2
  have M := fun w => m_best (E := E) (w := w) hI2 hW2 hB
  refine ⟨fun e => ?_, fun e => ?_, fun e => ?_, fun e => ?_, fun e => ?_⟩
  · have := M w; unfold bsV at this; rw [if_pos e] at this; rw [hD.1]; exact this
  · have := M w; unfold bsV at this; rw [if_neg (by omega), if_pos e] at this; rw [hD.2.1]; exact this
  · have := M w; unfold bsV at this; rw [if_neg (by omega), if_neg (by omega), if_pos e] at this; rw [hD.2.2.1]; exact this
  · have := M w; unfold bsV at this; rw [if_neg (by omega), if_neg (by omega), if_neg (by omega), if_pos e] at this; rw [hD.2.2.2.1]; exact this
  · have := M w; unfold bsV at this; rw [if_neg (by omega), if_neg (by omega), if_neg (by omega), if_neg (by omega)] at this; exact this
theorem sp20 : SP20 II := by
  intro E σ i hI hR hi
  obtain ⟨T, rd, A, hW⟩ := hI.pw
  obtain ⟨e6, hT, hH, hSo, hPl, h79, h50, hrd, hAe, h502, hA, h33⟩ := hW
  refine c_BC_bestAt (b_BC_bestAt_0 (by omega) ⟨fun i0 => ?_, fun i0 => c_Mod_bestAt (b_Mod_bestAt_0 (by omega) ⟨fun z => absurd z (by omega), fun _ => ⟨rfl, hI.thr⟩⟩)⟩)
  rw [h50, h502]
  refine s_Plan_plan (by omega) hT hA hrd hH hSo hPl (fun τ B hF h2 hS2 hP2 hB hD => ?_)
  have hI2 := hI.pla hF h2 (by rw [e6]; exact hS2) (by rw [e6]; exact hP2)
  have hl := RV.len hT hB.1.1.1
  have M : ∀ v : Int, ((B.length : Int) ≤ i → v = -1) → (i < B.length → v = 10 * hAt B i + kAt B i) → CI E y_Mod_bestAt 400 [vr 115, vi i] τ (fun y υ => v = y ∧ II υ) := by
    intro v v1 v2
    refine c_Mod_bestAt (b_Mod_bestAt_0 (by omega) ⟨fun _ => t_laysNow (by omega) hT (by rw [up_cell (by decide), hF 116 (by decide), e6]) h79 hrd hAe hA (fun υ hF2 hK2 hL => ?_), fun z => absurd z (by omega)⟩)
    obtain ⟨⟨B2, b1, b2, b3, b4, b5, b6⟩, -⟩ := hL
    have eB := b1.one hB
    subst eB
    have hI3 := hI2.thr.lb hF2 hK2
    rw [b4]
    refine ⟨fun z => ⟨v1 z, hI3⟩, fun z => ⟨by omega, ?_, hI3⟩⟩
    rw [b6 i i0 z]; exact v2 z
  rw [hD.2.1]
  refine ⟨fun z => M _ (fun _ => rfl) (fun y => by omega), fun z => ⟨fun y => absurd y (by omega), fun _ => ⟨by omega, M _ (fun y => by omega) (fun y => hD.2.2.2.2 i i0 y)⟩⟩⟩
theorem sp21 : SP21 II := by
  intro E σ n hI hR hn
  obtain ⟨T, rd, A, hW⟩ := hI.pw
  obtain ⟨e6, hT, hH, hSo, hPl, h79, h50, hrd, hAe, h502, hA, h33⟩ := hW
  have t4 := hT.2.2.2.1
  have M3 : ¬ (0 ≤ n ∧ n ≤ 999) → CI E y_Mod_bestBy 400 [vr 115, vi n] σ (fun y υ => -3 = y ∧ II υ) := fun h0 =>
    c_Mod_bestBy (b_Mod_bestBy_0 (by omega) (s_within (fun z => absurd z h0) (fun z => ⟨fun y => absurd rfl y, fun _ => ⟨rfl, hI.thr⟩⟩)))
  refine c_BC_bestBy (b_BC_bestBy_0 (by omega) ⟨fun z => M3 (by omega), fun n0 => ⟨fun n1 => ?_, fun z => M3 (by omega)⟩⟩)
  rw [h502]
  refine s_Plan_useHands hT hA (by omega) hH hSo (fun τ hF hK h2 hPE hS2 => ?_)
  have hI2 := hI.uha hF hK h2 (by rw [e6]; exact hS2)
  have p3 : τ 2 3 = T 4 := hPE.1.1.2.2.2.1
  refine s_Room_allLetters (Or.inl rfl) (by omega) ?_
  rw [p3, hF 50 (by decide), h50]
  refine s_Plan_mostWorth (by omega) hT hA hPE (Opn.mk hT hrd) ⟨n0, n1⟩ (fun w hw => ?_)
  have t6 : up τ 115 0 0 116 = T := by rw [up_cell (by decide), hF 116 (by decide), e6]
  refine c_Mod_bestBy (b_Mod_bestBy_0 (by omega) (s_within (fun z => ⟨fun _ => s_awake (by rw [t6]; exact hT.2.1) ?_, fun y => absurd y (by decide)⟩) (fun z => absurd ⟨n0, n1⟩ z)))
  rw [t6, hAe, h79]
  refine t_laysBest (by omega) hT hrd hA n0 t6 (fun υ hF2 hK2 hL => ⟨?_, hI2.thr.lb hF2 hK2⟩)
  obtain ⟨⟨B2, b1, b2, b3, -⟩, -⟩ := hL
  rw [b3]; exact (hw.best b1).symm
/-- the least end -/
def LstV (T : Int → Int) (wf v : Int) (V : RL → Prop) : Prop := v ≤ 1000 ∧ (v = 1000 ∨ ∃ R, V R ∧ wf ≤ wor T R ∧ endV (gM T) R = v) ∧ ∀ R, V R → wf ≤ wor T R → v ≤ endV (gM T) R
theorem LstV.one {T : Int → Int} {wf v u : Int} {V : RL → Prop} (h : LstV T wf v V) (g : LstV T wf u V) : v = u := by
  obtain ⟨a, b, c⟩ := h
  obtain ⟨a2, b2, c2⟩ := g
  rcases b with e | ⟨R, r1, r2, r3⟩ <;> rcases b2 with e2 | ⟨R2, q1, q2, q3⟩
  · omega
  · have := c R2 q1 q2; omega
  · have := c2 R r1 r2; omega
  · have := c R2 q1 q2
    have := c2 R r1 r2
    omega
theorem sp22 : SP22 II := by
  intro E σ wf hI hR hwf
  obtain ⟨T, rd, A, hW⟩ := hI.pw
  obtain ⟨e6, hT, hH, hSo, hPl, h79, h50, hrd, hAe, h502, hA, h33⟩ := hW
  have t4 := hT.2.2.2.1
  have p3 : σ 2 3 = T 4 := hH.1.2.2.2.1
  refine c_BC_noonFor (b_BC_noonFor_0 (by omega) ⟨fun w0 => s_Room_allLetters (Or.inl rfl) (by omega) ?_, fun z => c_Mod_noonFor (b_Mod_noonFor_0 (by omega) ⟨fun y => absurd y (by omega), fun _ => ⟨rfl, hI.thr⟩⟩)⟩)
  rw [p3, h502, h50]
  have hM := Opn.mk hT hrd
  generalize ian (2 ^ (T 4).toNat - 1) (ixo rd (-1)) = M at *
  refine s_Plan_useHands hT hA (by omega) hH hSo (fun τ hF hK h2 hPE hS2 => ?_)
  have hI2 := hI.uha hF hK h2 (by rw [e6]; exact hS2)
  have fin : ∀ v u : Int, LstV T wf v (CanB T rd A 999) → (v ≤ 999 → u = v) → (999 < v → u = -1) → CI E y_Mod_noonFor 400 [vr 115, vi wf] τ (fun y υ => u = y ∧ II υ) := by
    intro v u hv u1 u2
    have t6 : up (up τ 115 0 0) 115 33 wf 116 = T := by rw [up_cell (by decide), up_cell (by decide), hF 116 (by decide), e6]
    have t79 : τ 116 79 = rd := by rw [hF 116 (by decide), e6]; exact h79
    refine c_Mod_noonFor (b_Mod_noonFor_0 (by omega) ⟨fun _ => s_awake (by rw [t6]; exact hT.2.1) ?_, fun z => absurd z (by omega)⟩)
    rw [t6, hAe, t79]
    refine t_laysBest (by omega) hT hrd hA (by omega) t6 (fun υ hF2 hK2 hL => ?_)
    have e33 : up (up τ 115 0 0) 115 33 wf 115 33 = wf := up_same _ _ _ _
    rw [e33] at hL
    have ev : v = υ 115 34 := hv.one hL.2
    have hI3 : II (up υ 115 33 0) := by
      refine hI2.same (((((Fr.rf (S := scrt)).up (c := 115) (by decide)).up (c := 115) (by decide)).tr (hF2.wk (by decide))).up (by decide)) (fun k hk => ?_)
      by_cases e : k = 33
      · rw [e, up_same]; exact (hI2.2.2.2.2.2.2.2.2.2).symm
      · rw [up_nk e, hK2 k (by simp [lbK] at hk ⊢; omega), up_nk e, up_nk (by simp at hk; omega)]
    rw [← ev]
    exact ⟨fun z => ⟨u1 z, hI3⟩, fun z => ⟨u2 z, hI3⟩⟩
  have loop : ∀ (n : Nat) (s v : Int), 0 ≤ s → s + n = 64 → v ≤ 1000 → (v = 1000 ∨ ∃ R, CanB T rd A 999 R ∧ wf ≤ wor T R ∧ endV (gM T) R = v) → (∀ R, CanB T rd A 999 R → tkn R < s → wf ≤ wor T R → v ≤ endV (gM T) R) → Z E y_BC_noonFor 400 46 [some (vr 0), some (vi wf), some (vi M), some (vi v), some (vi s)] [] τ (qi fun x τ => CI E y_Mod_noonFor 400 [vr 115, vi wf] τ (fun y υ => x = y ∧ II υ)) := by
    intro n
    induction n with
    | zero =>
      intro s v s0 hs v1 h1 h3
      have hv : LstV T wf v (CanB T rd A 999) := ⟨v1, h1, fun R hR hw => h3 R hR (by have := (RV.cnt hT hR.1.1).1; omega) hw⟩
      exact b_BC_noonFor_46 (by omega) ⟨fun _ => ⟨fun z => fin v _ hv (fun y => by omega) (fun _ => rfl), fun z => fin v _ hv (fun _ => rfl) (fun y => by omega)⟩, fun z => absurd z (by omega)⟩
    | succ n ih =>
      intro s v s0 hs v1 h1 h3
      have hv := (hPE.2.2.2 s s0 (by omega)).1
      refine b_BC_noonFor_46 (by omega) ⟨fun z => absurd z (by omega), fun _ => ?_⟩
      rw [wid (x := s + 1) (by omega) (by omega)]
      refine ⟨fun ne => ih (s + 1) v (by omega) (by omega) v1 h1 (fun R hR hlt hw => ?_), fun e => s_Room_worthOf (by omega) hT hPE.1 (by unfold i32; omega) ⟨fun lt => ih (s + 1) v (by omega) (by omega) v1 h1 (fun R hR hlt hw => ?_), fun le => s_Plan_soonest hA hPE.2.1 ⟨s0, by omega⟩ (s_Math_min ?_)⟩⟩
      · by_cases e : tkn R = s
        · exact absurd (set_can hT hM hv hR e).1 ne
        · exact h3 R hR (by omega) hw
      · by_cases e2 : tkn R = s
        · have := wo_row hT hR.1.1
          rw [e2] at this; omega
        · exact h3 R hR (by omega) hw
      · refine ih (s + 1) _ (by omega) (by omega) (by omega) ?_ (fun R hR hlt hw => ?_)
        · rcases Int.le_total v (τ 13 (64 * A + s)) with z | z
          · rw [Int.min_eq_left z]; exact h1
          · rw [Int.min_eq_right z]
            by_cases h9 : τ 13 (64 * A + s) ≤ 999
            · obtain ⟨R0, r1, r2, r3⟩ := can_set hT hM (by omega) e hv h9
              refine Or.inr ⟨R0, r1, ?_, r3⟩
              rw [← wo_row hT r1.1.1, r2]; exact le
            · exact Or.inl (by have := hv.1; omega)
        · by_cases e2 : tkn R = s
          · have := hv.2.2 R hR.1 e2; omega
          · have := h3 R hR (by omega) hw; omega
  exact loop 64 0 1000 (by omega) (by omega) (by omega) (Or.inl rfl) (fun R hR hlt => by have := (RV.cnt hT hR.1.1).1; omega)
