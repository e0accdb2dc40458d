/-! without, hindrance, hopeless, lists -/
theorem sp23 : SP23 II := by
  intro E σ h hI hR hh
  obtain ⟨T, rd, A, hW⟩ := hI.pw
  have hW0 := hW
  obtain ⟨e6, hT, hH, hSo, hPl, h79, h50, hrd, hAe, h502, hA, h33⟩ := hW
  have t4 := hT.2.2.2.1
  have t2 := hT.2.1
  have t1 := hT.1
  have p1 : σ 2 1 = T 2 := hH.1.2.1
  have p3 : σ 2 3 = T 4 := hH.1.2.2.2.1
  have hM := Opn.mk hT hrd
  refine c_BC_without (b_BC_without_0 (by omega) (s_Room_hasHand (Or.inl rfl) (by omega) (fun hh2 => ⟨fun _ => ?_, fun z => absurd z (by decide)⟩) (fun hh2 => ⟨fun z => absurd rfl z, fun _ => c_Mod_without (b_Mod_without_0 (by omega) (s_isHand (by omega) (by rw [up_cell (by decide), e6]; exact t2) (fun z => absurd z (by rw [up_cell (by decide), e6, ← p1]; exact hh2)) (fun _ => ⟨fun z => absurd rfl z, fun _ => ⟨rfl, hI.thr⟩⟩)))⟩)))
  rw [p1] at hh2
  have an3 : ∀ (a : Fin 8) (k : Fin 3), 0 ≤ ian (a.val : Int) (ixo (ish 1 (k.val : Int)) (-1)) ∧ ian (a.val : Int) (ixo (ish 1 (k.val : Int)) (-1)) < 8 := by decide +kernel
  have hA2 : 0 ≤ ian A (ixo (ish 1 h) (-1)) ∧ ian A (ixo (ish 1 h) (-1)) < 8 := by
    have := an3 ⟨A.toNat, by omega⟩ ⟨h.toNat, by omega⟩
    simp only [show ((A.toNat : Nat) : Int) = A by omega, show ((h.toNat : Nat) : Int) = h by omega] at this
    exact this
  refine s_Room_allLetters (Or.inl rfl) (by omega) ?_
  rw [p3, h502, h50]
  generalize ian (2 ^ (T 4).toNat - 1) (ixo rd (-1)) = M at *
  refine s_Plan_useHands hT hA (by omega) hH hSo (fun τ hF hK h2 hPE hS2 => ?_)
  have hI2 := hI.uha hF hK h2 (by rw [e6]; exact hS2)
  have hW2 := hW0.uh hF hK h2 hS2
  have p0 : τ 2 0 = T 1 := hPE.1.1.1
  rw [p0]
  refine s_Plan_mostWorth (by omega) hT hA hPE hM ⟨by omega, by omega⟩ (fun w1 hw1 => ?_)
  rw [hW2.2.2.2.2.2.2.2.2.2.1]
  refine s_Plan_useHands hT hA2 (by omega) hW2.2.2.1 hS2 (fun τ2 hF2 hK2 h22 hPE2 hS3 => ?_)
  have e62 : τ 116 = T := hW2.1
  have hI3 := hI2.uha hF2 hK2 h22 (by rw [e62]; exact hS3)
  have p02 : τ2 2 0 = T 1 := hPE2.1.1.1
  rw [p02]
  refine s_Plan_mostWorth (by omega) hT hA2 hPE2 hM ⟨by omega, by omega⟩ (fun w2 hw2 => ?_)
  have t6 : up τ2 115 0 0 116 = T := by rw [up_cell (by decide), hF2 116 (by decide), e62]
  refine c_Mod_without (b_Mod_without_0 (by omega) (s_isHand (by omega) (by rw [t6]; exact t2) (fun _ => ⟨fun _ => ?_, fun z => absurd z (by decide)⟩) (fun z => absurd hh2 (by rw [t6] at z; exact z))))
  refine t_laysNow (by omega) hT t6 h79 hrd hAe hA (fun υ hF4 hK4 hL4 => ?_)
  have t7 : υ 116 = T := by rw [hF4 116 (by decide), t6]
  refine s_awake (by rw [t7]; exact t2) ?_
  rw [t7, hAe, h79]
  refine t_laysBest (by omega) hT hrd hA2 (by omega) t7 (fun υ2 hF5 hK5 hL5 => ⟨?_, (hI3.thr.lb hF4 hK4).lb hF5 hK5⟩)
  obtain ⟨⟨B1, b1, -, b3, -⟩, -⟩ := hL4
  obtain ⟨⟨B2, c1, -, c3, -⟩, -⟩ := hL5
  rw [b3, c3, hw1.best b1, hw2.best c1]
/-- the most worth -/
noncomputable def mwF (T : Int → Int) (rd A noon : Int) : Int := Classical.epsilon (fun w => MWo T rd A noon w)
theorem MWo.eq {T : Int → Int} {rd A noon w : Int} (h : MWo T rd A noon w) : mwF T rd A noon = w := by
  have s : MWo T rd A noon (mwF T rd A noon) := Classical.epsilon_spec (p := fun w => MWo T rd A noon w) ⟨w, h⟩
  obtain ⟨⟨R, a, b⟩, c⟩ := h
  obtain ⟨⟨R2, a2, b2⟩, c2⟩ := s
  have := c R2 a2
  have := c2 R a
  omega
theorem IsBest.mw {T : Int → Int} {rd A noon : Int} {B : RL} (h : IsBest T rd A noon B) : MWo T rd A noon (wor T B) :=
  ⟨⟨B, h.1, rfl⟩, fun R hR => by have := h.2 R hR; omega⟩
/-- the first letters: which one hinders most, and what is read without it -/
noncomputable def hinS (T : Int → Int) (rd A : Int) : Nat → Int × Int
  | 0 => (-1, -1)
  | i + 1 => if bt rd i = 0 ∧ (hinS T rd A i).2 < mwF T (ior rd (ish 1 i)) A (T 1) then ((i : Int), mwF T (ior rd (ish 1 i)) A (T 1)) else hinS T rd A i
theorem Opn.less {T : Int → Int} {rd M k : Int} (hr : 0 ≤ rd ∧ rd < 64) (h : Opn T rd M) (hk : 0 ≤ k ∧ k < 6) (hb : bt M k = 1) : Opn T (ior rd (ish 1 k)) (ian M (ixo (ish 1 k) (-1))) := by
  have l := bless_lt h.1 hk hb
  have m := h.1
  refine ⟨⟨l.1, by omega⟩, fun j j0 j1 => ?_⟩
  rw [bless h.1 hk ⟨j0, j1⟩, bor hr hk ⟨j0, j1⟩]
  by_cases e : j = k
  · rw [if_pos e, if_pos e]; exact ⟨fun z => absurd z (by decide), fun z => absurd z.2 (by decide)⟩
  · rw [if_neg e, if_neg e]; exact h.2 j j0 j1
theorem sp24 : SP24 II := by
  intro E σ hI hR
  obtain ⟨T, rd, A, hW⟩ := hI.pw
  have hW0 := hW
  obtain ⟨e6, hT, hH, hSo, hPl, h79, h50, hrd, hAe, h502, hA, h33⟩ := hW
  have t4 := hT.2.2.2.1
  have t1 := hT.1
  have t2 := hT.2.1
  refine c_BC_hindrance (b_BC_hindrance_0 (by omega) ?_)
  rw [h502]
  refine s_Plan_useHands hT hA (by omega) hH hSo (fun τ hF hK h2 hPE hS2 => ?_)
  have hI2 := hI.uha hF hK h2 (by rw [e6]; exact hS2)
  have hW2 := hW0.uh hF hK h2 hS2
  have e62 : τ 116 = T := hW2.1
  have p3 : τ 2 3 = T 4 := hPE.1.1.2.2.2.1
  have p0 : τ 2 0 = T 1 := hPE.1.1.1
  refine s_Room_allLetters (Or.inl rfl) (by omega) ?_
  rw [p3, hW2.2.2.2.2.2.2.1]
  have hM := Opn.mk hT hrd
  generalize ian (2 ^ (T 4).toNat - 1) (ixo rd (-1)) = M at *
  have Mr : CI E y_Mod_hindrance 400 [vr 115] τ (fun y υ => (hinS T rd A (T 4).toNat).1 = y ∧ II υ) := by
    refine c_Mod_hindrance (b_Mod_hindrance_0 ?_)
    have loop : ∀ (n i : Nat) (υ : Mem), (i : Int) + n = T 4 → II υ → υ 116 = T → Z E y_Mod_hindrance 400 11 [some (vr 115), some (vi (hinS T rd A i).1), some (vi (hinS T rd A i).2), some (vi (i : Int))] [] υ (qi fun y υ => (hinS T rd A (T 4).toNat).1 = y ∧ II υ) := by
      intro n
      induction n with
      | zero =>
        intro i υ hi hIu u6
        refine b_Mod_hindrance_11 (by omega) ⟨fun _ => ⟨by rw [show (T 4).toNat = i by omega], hIu⟩, fun z => absurd z (by rw [u6]; omega)⟩
      | succ n ih =>
        intro i υ hi hIu u6
        refine b_Mod_hindrance_11 (by omega) ⟨fun z => absurd z (by rw [u6]; omega), fun _ => ?_⟩
        rw [u6, h79, wid (x := (i : Int) + 1) (by omega) (by omega)]
        have rb := bor_lt hrd (k := (i : Int)) (by omega)
        refine s_isIn (by unfold i64; omega) (by omega) ⟨fun z => s_awake (by rw [u6]; exact t2) ?_, fun z => ?_⟩
        · rw [u6, hAe, h79]
          refine t_laysBest (by omega) hT rb hA (by omega) u6 (fun υ2 hF2 hK2 hL => ?_)
          obtain ⟨⟨B, b1, -, b3, -⟩, -⟩ := hL
          have em := b1.mw.eq
          have hI3 := hIu.lb hF2 hK2
          have g6 : υ2 116 = T := by rw [hF2 116 (by decide), u6]
          have nx := ih (i + 1) υ2 (by omega) hI3 g6
          rw [b3, ← em]
          refine ⟨fun lt => ?_, fun le => ?_⟩
          · have e : hinS T rd A (i + 1) = ((i : Int), mwF T (ior rd (ish 1 i)) A (T 1)) := if_pos ⟨z, lt⟩
            rw [e] at nx; exact nx
          · have e : hinS T rd A (i + 1) = hinS T rd A i := if_neg (fun y => by have := y.2; omega)
            rw [e] at nx; exact nx
        · have e : hinS T rd A (i + 1) = hinS T rd A i := if_neg (fun y => z y.1)
          have nx := ih (i + 1) υ (by omega) hIu u6
          rw [e] at nx; exact nx
    exact loop (T 4).toNat 0 _ (by omega) hI2.thr (by rw [up_cell (by decide), e62])
  have loop : ∀ (n i : Nat) (o5 : Option AV), (i : Int) + n = T 4 → Z E y_BC_hindrance 400 39 [some (vr 0), some (vi M), some (vi (hinS T rd A i).1), some (vi (hinS T rd A i).2), some (vi (i : Int)), o5] [] τ (qi fun x τ => CI E y_Mod_hindrance 400 [vr 115] τ (fun y υ => x = y ∧ II υ)) := by
    intro n
    induction n with
    | zero =>
      intro i o5 hi
      refine b_BC_hindrance_39 (by omega) ⟨fun _ => ?_, fun z => absurd z (by omega)⟩
      rw [show i = (T 4).toNat by omega]; exact Mr
    | succ n ih =>
      intro i o5 hi
      have k6 : 0 ≤ (i : Int) ∧ (i : Int) < 6 := ⟨by omega, by omega⟩
      have hb := hM.2 (i : Int) k6.1 k6.2
      refine b_BC_hindrance_39 (by omega) ⟨fun z => absurd z (by omega), fun _ => ?_⟩
      rw [bit_eqU (by omega), wid (x := (i : Int) + 1) (by omega) (by omega), p0]
      refine ⟨fun z => ?_, fun z => ?_⟩
      · have e : hinS T rd A (i + 1) = hinS T rd A i := if_neg (fun y => by have := hb.mpr ⟨by omega, y.1⟩; omega)
        have nx := ih (i + 1) o5 (by omega)
        rw [e] at nx; exact nx
      · have b1 := bt_not z
        have r0 := (hb.mp b1).2
        refine s_Plan_mostWorth (by omega) hT hA hPE (hM.less hrd k6 b1) ⟨by omega, by omega⟩ (fun w hw => ?_)
        have em := hw.eq
        refine ⟨fun le => ?_, fun lt => ?_⟩
        · have e : hinS T rd A (i + 1) = hinS T rd A i := if_neg (fun y => by have := y.2; rw [em] at this; omega)
          have nx := ih (i + 1) (some (vi w)) (by omega)
          rw [e] at nx; exact nx
        · have e : hinS T rd A (i + 1) = ((i : Int), mwF T (ior rd (ish 1 i)) A (T 1)) := if_pos ⟨r0, by rw [em]; exact lt⟩
          have nx := ih (i + 1) (some (vi w)) (by omega)
          rw [e, em] at nx; exact nx
  exact loop (T 4).toNat 0 none (by omega)
/-- by this hand alone it can be read by noon -/
def One (T : Int → Int) (rd A k h : Int) : Prop := CanB T rd A (T 1) [(k, h)]
theorem one_take {T : Int → Int} {rd A k h : Int} (hk : 0 ≤ k ∧ k < 6) (hk2 : k < T 4) (hh : 0 ≤ h ∧ h < 3) (hh2 : h < T 2) : (takeF T rd A [] (10 * h + k)).1 = 0 ↔ One T rd A k h := by
  have m : (10 * h + k) % 10 = k := by omega
  have q : (10 * h + k) / 10 = h := by omega
  unfold takeF
  rw [m, q, if_neg (fun z => z ⟨by omega, by omega, hk2, hh2⟩)]
  have e0 : bt (tkn []) k = 0 := bt0 k
  by_cases c : bt rd k = 1 ∨ bt (tkn []) k = 1 ∨ bt A h = 0 ∨ bt (T (27 + h)) (T (43 + k)) = 0
  · rw [if_pos c]
    refine ⟨fun z => absurd z (by show (2 : Int) ≠ 0; decide), fun z => ?_⟩
    exfalso
    have a := z.1.2 (k, h) List.mem_cons_self
    have b := z.2.1 (k, h) List.mem_cons_self
    have a1 : bt A h = 1 := a.1
    have a2 : bt (T (27 + h)) (T (43 + k)) = 1 := a.2
    have a3 : bt rd k = 0 := b
    omega
  · rw [if_neg c]
    have b1 : bt rd k = 0 := by rcases bt_01 rd k with y | y; exact y; exact absurd (Or.inl y) c
    have b2 : bt A h = 1 := bt_not (fun y => c (Or.inr (Or.inr (Or.inl y))))
    have b3 : bt (T (27 + h)) (T (43 + k)) = 1 := bt_not (fun y => c (Or.inr (Or.inr (Or.inr y))))
    have ro : RO T A [(k, h)] := ⟨⟨⟨⟨hk.1, hk2⟩, ⟨hh.1, hh2⟩⟩, e0, trivial⟩, fun y hy => by rw [List.mem_singleton.mp hy]; exact ⟨b2, b3⟩⟩
    by_cases e : T 1 < endV (gM T) [(k, h)]
    · rw [if_pos e]
      refine ⟨fun z => absurd z (by show (3 : Int) ≠ 0; decide), fun z => ?_⟩
      have z2 : endV (gM T) [(k, h)] ≤ T 1 := z.2.2
      omega
    · rw [if_neg e]
      exact ⟨fun _ => ⟨ro, fun y hy => by rw [List.mem_singleton.mp hy]; exact b1, by omega⟩, fun _ => rfl⟩
theorem s1_1 : ∀ k : Fin 6, 0 ≤ ish 1 (k.val : Int) ∧ ish 1 (k.val : Int) < 64 ∧ ∀ j : Fin 6, (bt (ish 1 (k.val : Int)) (j.val : Int) = if j = k then 1 else 0) := by decide +kernel
theorem s1_b {k : Int} (hk : 0 ≤ k ∧ k < 6) : 0 ≤ ish 1 k ∧ ish 1 k < 64 := by
  have b := s1_1 ⟨k.toNat, by omega⟩
  simp only [show ((k.toNat : Nat) : Int) = k by omega] at b
  exact ⟨b.1, b.2.1⟩
theorem one_set {T : Int → Int} (hT : MT T) {A k : Int} {R : RL} (hk : 0 ≤ k ∧ k < 6) (hR : RO T A R) (e : tkn R = ish 1 k) : ∃ h, R = [(k, h)] := by
  have b := s1_1 ⟨k.toNat, by omega⟩
  simp only [show ((k.toNat : Nat) : Int) = k by omega] at b
  have i := in63.of hT hR.1
  have only : ∀ x ∈ R, x.1 = k := fun x hx => by
    have x6 := (i x hx).1
    have t := (tkn_bt i x6).mpr ⟨x, hx, rfl⟩
    rw [e] at t
    have := b.2.2 ⟨x.1.toNat, by omega⟩
    simp only [show ((x.1.toNat : Nat) : Int) = x.1 by omega] at this
    rw [this] at t
    by_cases c : (⟨x.1.toNat, by omega⟩ : Fin 6) = ⟨k.toNat, by omega⟩
    · have := congrArg Fin.val c
      simp only at this
      omega
    · rw [if_neg c] at t; exact absurd t (by decide)
  have nd := ((RV_iff hT).mp hR.1).2
  cases R with
  | nil =>
    exfalso
    have t : bt (tkn []) k = 1 := by
      rw [e]
      have := b.2.2 ⟨k.toNat, by omega⟩
      rw [if_pos rfl] at this
      simp only [show ((k.toNat : Nat) : Int) = k by omega] at this
      exact this
    have : bt (tkn []) k = 0 := bt0 k
    omega
  | cons x R =>
    cases R with
    | nil => exact ⟨x.2, by rw [← only x List.mem_cons_self]⟩
    | cons y R =>
      exfalso
      rw [List.map_cons, List.map_cons, List.nodup_cons] at nd
      refine nd.1 ?_
      rw [only x List.mem_cons_self, only y (List.mem_cons_of_mem _ List.mem_cons_self)]
      exact List.mem_cons_self
theorem one_tk {k h : Int} (hk : 0 ≤ k ∧ k < 6) : tkn [(k, h)] = ish 1 k := by
  have o : ∀ k : Fin 6, ior 0 (ish 1 (k.val : Int)) = ish 1 (k.val : Int) := by decide +kernel
  have := o ⟨k.toNat, by omega⟩
  simp only [show ((k.toNat : Nat) : Int) = k by omega] at this
  exact this
theorem one_soon {T : Int → Int} (hT : MT T) {rd A k v : Int} (hk : 0 ≤ k ∧ k < 6) (hr : bt rd k = 0) (hv : IsSoon T A (ish 1 k) v) : v ≤ T 1 ↔ ∃ h, 0 ≤ h ∧ h < T 2 ∧ One T rd A k h := by
  have t1 := hT.1
  constructor
  · intro le
    rcases hv.2.1 with e | ⟨R, a, b, c⟩
    · omega
    · obtain ⟨h, e⟩ := one_set hT hk a b
      subst e
      have m := (a.1.mem (k, h) List.mem_cons_self).2
      exact ⟨h, m.1, m.2, a, fun y hy => by rw [List.mem_singleton.mp hy]; exact hr, by omega⟩
  · rintro ⟨h, h0, h1, o⟩
    have := hv.2.2 _ o.1 (one_tk hk)
    have := o.2.2
    omega
theorem sp25 : SP25 II := by
  intro E σ hI hR
  obtain ⟨T, rd, A, hW⟩ := hI.pw
  have hW0 := hW
  obtain ⟨e6, hT, hH, hSo, hPl, h79, h50, hrd, hAe, h502, hA, h33⟩ := hW
  have t4 := hT.2.2.2.1
  have t1 := hT.1
  have t2 := hT.2.1
  refine c_BC_hopeless (b_BC_hopeless_0 (by omega) ?_)
  rw [h502]
  refine s_Plan_useHands hT hA (by omega) hH hSo (fun τ hF hK h2 hPE hS2 => ?_)
  have hI2 := hI.uha hF hK h2 (by rw [e6]; exact hS2)
  have hW2 := hW0.uh hF hK h2 hS2
  have e62 : τ 116 = T := hW2.1
  have p3 : τ 2 3 = T 4 := hPE.1.1.2.2.2.1
  have p0 : τ 2 0 = T 1 := hPE.1.1.1
  have p50 : τ 50 0 = rd := hW2.2.2.2.2.2.2.1
  have hM := Opn.mk hT hrd
  have Mr : ∀ s : Int, (0 ≤ s ∧ s < 64) → (∀ j : Int, 0 ≤ j → j < 6 → (bt s j = 1 ↔ j < T 4 ∧ bt rd j = 0 ∧ ∀ h, 0 ≤ h → h < T 2 → ¬ One T rd A j h)) → CI E y_Mod_hopeless 400 [vr 115] τ (fun y υ => s = y ∧ II υ) := by
    intro s hs hsb
    have t6 : up τ 115 0 0 116 = T := by rw [up_cell (by decide), e62]
    refine c_Mod_hopeless (b_Mod_hopeless_0 (by omega) (s_letters (by rw [t6]; exact t4) ?_))
    rw [t6, h79]
    have loop : ∀ (n i : Nat) (a : Int) (υ : Mem) (o3 : Option AV), (i : Int) + n = T 4 → II υ → υ 116 = T → (0 ≤ a ∧ a < 64) → (∀ j : Int, 0 ≤ j → j < 6 → (bt a j = 1 ↔ j < T 4 ∧ bt rd j = 0 ∧ (j < i → ∀ h, 0 ≤ h → h < T 2 → ¬ One T rd A j h))) → Z E y_Mod_hopeless 400 22 [some (vr 115), some (vi a), some (vi (i : Int)), o3] [] υ (qi fun y υ => s = y ∧ II υ) := by
      intro n
      induction n with
      | zero =>
        intro i a υ o3 hi hIu u6 ha hab
        refine b_Mod_hopeless_22 ⟨fun _ => ⟨?_, hIu⟩, fun z => absurd z (by rw [u6]; omega)⟩
        refine ext6 hs ha (fun j j0 j1 => ?_)
        have e : bt s j = 1 ↔ bt a j = 1 := by
          rw [hsb j j0 j1, hab j j0 j1]
          exact ⟨fun z => ⟨z.1, z.2.1, fun _ => z.2.2⟩, fun z => ⟨z.1, z.2.1, z.2.2 (by omega)⟩⟩
        rcases bt_01 s j with y | y <;> rcases bt_01 a j with z | z
        · omega
        · have := e.mpr z; omega
        · have := e.mp y; omega
        · omega
      | succ n ih =>
        intro i a υ o3 hi hIu u6 ha hab
        have k6 : 0 ≤ (i : Int) ∧ (i : Int) < 6 := ⟨by omega, by omega⟩
        have inner : ∀ (m : Nat) (h a : Int) (υ : Mem), 0 ≤ h → h + m = T 2 → II υ → υ 116 = T → (0 ≤ a ∧ a < 64) → (∀ j : Int, 0 ≤ j → j < 6 → (bt a j = 1 ↔ j < T 4 ∧ bt rd j = 0 ∧ (j < i → ∀ h, 0 ≤ h → h < T 2 → ¬ One T rd A j h) ∧ (j = i → ∀ y, 0 ≤ y → y < h → ¬ One T rd A j y))) → Z E y_Mod_hopeless 400 34 [some (vr 115), some (vi a), some (vi (i : Int)), some (vi h)] [] υ (qi fun y υ => s = y ∧ II υ) := by
          intro m
          induction m with
          | zero =>
            intro h a υ h0 hh hIu u6 ha hab
            refine b_Mod_hopeless_34 (by omega) ⟨fun _ => ?_, fun z => absurd z (by rw [u6]; omega)⟩
            rw [wid (x := (i : Int) + 1) (by omega) (by omega)]
            refine ih (i + 1) a υ _ (by omega) hIu u6 ha (fun j j0 j1 => ?_)
            rw [hab j j0 j1]
            refine ⟨fun z => ⟨z.1, z.2.1, fun lt => ?_⟩, fun z => ⟨z.1, z.2.1, fun lt => z.2.2 (by omega), fun e y y0 y1 => z.2.2 (by omega) y y0 (by omega)⟩⟩
            by_cases e : j = i
            · intro y y0 y1; exact z.2.2.2 e y y0 (by omega)
            · exact z.2.2.1 (by omega)
          | succ m ihm =>
            intro h a υ h0 hh hIu u6 ha hab
            refine b_Mod_hopeless_34 (by omega) ⟨fun z => absurd z (by rw [u6]; omega), fun _ => s_isNone (g := gM T) (fun υ1 hF1 hK1 hR1 => ?_)⟩
            have g6 : υ1 116 = T := by rw [hF1.one (by decide), u6]
            rw [wid (x := 10 * h) (by omega) (by omega), wid (x := 10 * h + (i : Int)) (by omega) (by omega), wid (x := h + 1) (by omega) (by omega)]
            have aw : awM T = A := hAe
            refine s_whyLast (R := []) (by omega) (by rw [g6]; exact hT) (by rw [g6, h79]; exact hrd) (by rw [g6, aw]; unfold i64; omega) trivial (by rw [g6]; exact hR1) (fun υ2 hF2 hK2 _ => ?_)
            rw [g6, h79, aw]
            have ot := one_take (T := T) (rd := rd) (A := A) k6 (by omega) (h := h) ⟨h0, by omega⟩ (by omega)
            have hI3 : II υ2 := hIu.same ((hF1.wk (by decide)).tr (hF2.wk (by decide))) (fun k hk => by rw [hK2 k (by simp at hk ⊢; omega), hK1 k (by simp at hk ⊢; omega)])
            have i6 : υ2 116 = T := by rw [hF2 116 (by decide), g6]
            refine ⟨fun ne => ihm (h + 1) a υ2 (by omega) (by omega) hI3 i6 ha (fun j j0 j1 => ?_), fun eq => ?_⟩
            · rw [hab j j0 j1]
              refine ⟨fun z => ⟨z.1, z.2.1, z.2.2.1, fun e y y0 y1 => ?_⟩, fun z => ⟨z.1, z.2.1, z.2.2.1, fun e y y0 y1 => z.2.2.2 e y y0 (by omega)⟩⟩
              by_cases ey : y = h
              · rw [ey, e]; exact fun o => ne (ot.mpr o)
              · exact z.2.2.2 e y y0 (by omega)
            · have on := ot.mp eq
              have bl : 0 ≤ ian a (ixo (ish 1 (i : Int)) (-1)) ∧ ian a (ixo (ish 1 (i : Int)) (-1)) < 64 := by
                have p := s1_b k6
                have w := bn_2 ⟨a.toNat, by omega⟩ ⟨(ish 1 (i : Int)).toNat, by omega⟩
                simp only [show ((a.toNat : Nat) : Int) = a by omega, show (((ish 1 (i : Int)).toNat : Nat) : Int) = ish 1 (i : Int) from Int.toNat_of_nonneg p.1] at w
                exact w
              refine ihm (h + 1) _ υ2 (by omega) (by omega) hI3 i6 bl (fun j j0 j1 => ?_)
              rw [bless ha k6 ⟨j0, j1⟩]
              by_cases e : j = i
              · rw [if_pos e]
                refine ⟨fun z => absurd z (by decide), fun z => ?_⟩
                exact absurd (by rw [e]; exact on) (z.2.2.2 e h h0 (by omega))
              · rw [if_neg e, hab j j0 j1]
                exact ⟨fun z => ⟨z.1, z.2.1, z.2.2.1, fun y => absurd y e⟩, fun z => ⟨z.1, z.2.1, z.2.2.1, fun y => absurd y e⟩⟩
        refine b_Mod_hopeless_22 ⟨fun z => absurd z (by rw [u6]; omega), fun _ => inner (T 2).toNat 0 a υ (by omega) (by omega) hIu u6 ha (fun j j0 j1 => ?_)⟩
        rw [hab j j0 j1]
        exact ⟨fun z => ⟨z.1, z.2.1, z.2.2, fun _ y y0 y1 => absurd y1 (by omega)⟩, fun z => ⟨z.1, z.2.1, z.2.2.1⟩⟩
    refine loop (T 4).toNat 0 _ _ _ (by omega) hI2.thr t6 hM.1 (fun j j0 j1 => ?_)
    rw [hM.2 j j0 j1]
    exact ⟨fun z => ⟨z.1, z.2, fun y => absurd y (by omega)⟩, fun z => ⟨z.1, z.2.1⟩⟩
  have loop : ∀ (n i : Nat) (a : Int) (o3 : Option AV), (i : Int) + n = T 4 → (0 ≤ a ∧ a < 64) → (∀ j : Int, 0 ≤ j → j < 6 → (bt a j = 1 ↔ j < i ∧ bt rd j = 0 ∧ ∀ h, 0 ≤ h → h < T 2 → ¬ One T rd A j h)) → Z E y_BC_hopeless 400 18 [some (vr 0), some (vi a), some (vi (i : Int)), o3] [] τ (qi fun x τ => CI E y_Mod_hopeless 400 [vr 115] τ (fun y υ => x = y ∧ II υ)) := by
    intro n
    induction n with
    | zero =>
      intro i a o3 hi ha hab
      refine b_BC_hopeless_18 ⟨fun _ => Mr a ha (fun j j0 j1 => ?_), fun z => absurd z (by omega)⟩
      rw [hab j j0 j1, show ((i : Int)) = T 4 by omega]
    | succ n ih =>
      intro i a o3 hi ha hab
      have k6 : 0 ≤ (i : Int) ∧ (i : Int) < 6 := ⟨by omega, by omega⟩
      have s1 := s1_b k6
      have same : (bt rd i = 0 → ∃ h, 0 ≤ h ∧ h < T 2 ∧ One T rd A i h) → ∀ j : Int, 0 ≤ j → j < 6 → (bt a j = 1 ↔ j < ((i + 1 : Nat) : Int) ∧ bt rd j = 0 ∧ ∀ h, 0 ≤ h → h < T 2 → ¬ One T rd A j h) := by
        intro hno j j0 j1
        rw [hab j j0 j1]
        refine ⟨fun z => ⟨by omega, z.2⟩, fun z => ⟨?_, z.2⟩⟩
        by_cases e : j = i
        · exfalso
          rw [e] at z
          obtain ⟨h, h0, h1, o⟩ := hno z.2.1
          exact z.2.2 h h0 h1 o
        · omega
      refine b_BC_hopeless_18 ⟨fun z => absurd z (by omega), fun _ => ?_⟩
      rw [p50, bit_eqU (by omega)]
      refine ⟨fun z => b_BC_hopeless_48 (by omega) ⟨fun _ => ?_, fun y => absurd rfl y⟩, fun z => b_BC_hopeless_48 (by omega) ⟨fun y => absurd y (by decide), fun _ => ?_⟩⟩
      · rw [wid (x := (i : Int) + 1) (by omega) (by omega)]
        exact ih (i + 1) a _ (by omega) ha (same (fun y => absurd y z))
      · refine s_Plan_soonest hA hPE.2.1 s1 ?_
        have hv := (hPE.2.2.2 _ s1.1 s1.2).1
        have os := one_soon hT k6 z hv
        rw [p0, wid (x := (i : Int) + 1) (by omega) (by omega)]
        refine ⟨fun le => ih (i + 1) a _ (by omega) ha (same (fun _ => os.mp le)), fun lt => ih (i + 1) _ _ (by omega) (bor_lt ha k6) (fun j j0 j1 => ?_)⟩
        rw [bor ha k6 ⟨j0, j1⟩]
        by_cases e : j = i
        · rw [if_pos e]
          refine ⟨fun _ => ⟨by omega, by rw [e]; exact z, fun h h0 h1 o => ?_⟩, fun _ => rfl⟩
          rw [e] at o
          have := os.mpr ⟨h, h0, h1, o⟩
          omega
        · rw [if_neg e, hab j j0 j1]
          exact ⟨fun z => ⟨by omega, z.2⟩, fun z => ⟨by omega, z.2⟩⟩
  refine loop (T 4).toNat 0 0 none (by omega) (by omega) (fun j j0 j1 => ?_)
  rw [bt0]
  exact ⟨fun z => absurd z (by decide), fun z => absurd z.1 (by omega)⟩
