/-! what the laws give in the room under test -/
theorem clp_mm {lo hi v : Int} (h : lo ≤ hi) : max lo (min hi v) = clp lo hi v := by unfold clp; (repeat' split) <;> omega
theorem trc_a {c : Int} (h : c < 1000) : trc c = c := by unfold trc; rw [if_pos h]
theorem trc_b {c : Int} (h : 3000 ≤ c) : trc c = c - 1800 := by unfold trc; rw [if_neg (by omega), if_neg (by omega), if_neg (by omega), if_neg (by omega), if_neg (by omega), if_neg (by omega)]
theorem trc_c {T : TB} {c k h : Int} (h0 : 1000 ≤ c ∧ c ≤ 1003) : ∃ w : Int, trc c = 1000 + w ∧ (0 ≤ w ∧ w < 7) ∧ wdF T (c - 1000) k h = T (37 + 6 * w + k) := by
  rcases (show c = 1000 ∨ c = 1001 ∨ c = 1002 ∨ c = 1003 by omega) with rfl | rfl | rfl | rfl
  · exact ⟨2, by decide, by decide, by show T (49 + k) = _; rw [show 37 + 6 * 2 + k = 49 + k by omega]⟩
  · exact ⟨4, by decide, by decide, by show T (61 + k) = _; rw [show 37 + 6 * 4 + k = 61 + k by omega]⟩
  · exact ⟨5, by decide, by decide, by show T (67 + k) = _; rw [show 37 + 6 * 5 + k = 67 + k by omega]⟩
  · exact ⟨1, by decide, by decide, by show T (43 + k) = _; rw [show 37 + 6 * 1 + k = 43 + k by omega]⟩
theorem rd_b : ∀ (h : Fin 3) (s : Fin 8) (b : Fin 2), s.val < 2 ^ h.val → (0 ≤ ior (s.val : Int) (ish (b.val : Int) (h.val : Int)) ∧ ior (s.val : Int) (ish (b.val : Int) (h.val : Int)) < 2 ^ (h.val + 1)) ∧ bt (ior (s.val : Int) (ish (b.val : Int) (h.val : Int))) (h.val : Int) = (b.val : Int) ∧ ∀ y : Fin 3, y.val < h.val → bt (ior (s.val : Int) (ish (b.val : Int) (h.val : Int))) (y.val : Int) = bt (s.val : Int) (y.val : Int) := by decide +kernel
theorem rdB {h s b : Int} (hh : 0 ≤ h ∧ h < 3) (hs : 0 ≤ s ∧ s < 2 ^ h.toNat) (hb : b = 0 ∨ b = 1) : (0 ≤ ior s (ish b h) ∧ ior s (ish b h) < 2 ^ (h.toNat + 1)) ∧ bt (ior s (ish b h)) h = b ∧ ∀ y : Int, 0 ≤ y → y < h → bt (ior s (ish b h)) y = bt s y := by
  have s8 : s < 8 := by
    have := pw8 (n := h) (by omega)
    omega
  have e2 : s.toNat < 2 ^ h.toNat := by
    have : ((s.toNat : Nat) : Int) < ((2 ^ h.toNat : Nat) : Int) := by
      rw [show ((s.toNat : Nat) : Int) = s by omega]; push_cast; exact hs.2
    exact_mod_cast this
  have := rd_b ⟨h.toNat, by omega⟩ ⟨s.toNat, by omega⟩ ⟨b.toNat, by omega⟩ e2
  simp only [show ((h.toNat : Nat) : Int) = h by omega, show ((s.toNat : Nat) : Int) = s by omega, show ((b.toNat : Nat) : Int) = b by omega] at this
  refine ⟨this.1, this.2.1, fun y y0 y1 => ?_⟩
  have t := this.2.2 ⟨y.toNat, by omega⟩ (by show y.toNat < h.toNat; omega)
  simp only [show ((y.toNat : Nat) : Int) = y by omega] at t
  exact t
/-- what the laws need of the draft -/
def DW (σ : Mem) (T : TB) : Prop := DR σ T ∧ MT T ∧ NK T ∧ ∀ l : Int, 0 ≤ l → l < 4 → T (7 + l) = 1 → 1 ≤ T (15 + l)
def woC : List Nat := [20, 21, 22, 23, 24, 72]
theorem DW.fr {σ τ : Mem} {T : TB} (h : DW σ T) (hF : Fr woC σ τ) : DW τ T := ⟨h.1.fr (fun c hc => hF c (by simp [woC] at hc ⊢; omega)), h.2⟩
section
variable {E : EN} {d : Nat} {σ : Mem} {T : TB}
theorem s_Laws_within {K : Int → Mem → Prop} {v lo hi : Int} (hd : 1 ≤ d) (h : lo ≤ hi) (hb : -2147483648 ≤ lo ∧ hi < 2147483648) (q : K (clp lo hi v) σ) : CI E y_Laws_within d [vl v, vi lo, vi hi] σ K := by
  refine c_Laws_within (b_Laws_within_0 hd (s_Math_minL (s_Math_maxL ?_)))
  have := clp_b (v := v) h
  rw [clp_mm h, wid (by omega) (by omega)]; exact q
theorem s_Laws_joined {K : Int → Mem → Prop} {c a b : Int} (hd : 2 ≤ d) (hc : c = 3000 ∨ c = 3001 ∨ c = 3002) (ha : -1000000 ≤ a ∧ a ≤ 1000000) (hb : -1000000 ≤ b ∧ b ≤ 1000000) (q : K (btw c a b) σ) : CL E y_Laws_joined d [vi (c - 1800), vl a, vl b] σ K := by
  have hm1 : a * b ≤ 1000000000000 ∧ -1000000000000 ≤ a * b := by
    have h1 : a.natAbs * b.natAbs ≤ 1000000 * 1000000 := Nat.mul_le_mul (by omega) (by omega)
    rw [← Int.natAbs_mul] at h1
    omega
  have fin : ∀ s : Int, s = (if c = 3000 then a + b else if c = 3001 then a - b else a * b) → CI E y_Laws_within (d - 1) [vl s, vi (-1000000), vi 1000000] σ (fun x τ => K x τ) := fun s e => s_Laws_within (by omega) (by decide) (by decide) (by unfold btw at q; rw [← e] at q; exact q)
  refine c_Laws_joined (b_Laws_joined_0 (by omega) ⟨fun h1 => ⟨fun h2 => ?_, fun h2 => ?_⟩, fun h1 => ?_⟩)
  · rw [wid64 (by omega) (by omega)]; exact fin _ (by rw [if_neg (by omega), if_neg (by omega)])
  · rw [wid64 (by omega) (by omega)]; exact fin _ (by rw [if_neg (by omega), if_pos (by omega)])
  · rw [wid64 (by omega) (by omega)]; exact fin _ (by rw [if_pos (by omega)])
theorem s_Laws_told {K : Int → Mem → Prop} {l : Int} (hl : 0 ≤ l ∧ l < 4) (hW : DW σ T) (k1 : T (7 + l) = 1 → K 1 σ) (k0 : T (7 + l) ≠ 1 → K 0 σ) : CI E y_Laws_told d [vr 68, vi l] σ K := by
  obtain ⟨hD, hM, hN, h15⟩ := hW
  have hl2 := hD.2.2.2.2.2.2 l hl.1 hl.2
  refine c_Laws_told (b_Laws_told_0 ⟨fun z => absurd z (by omega), fun _ => ⟨fun z => absurd z (by omega), fun _ => ⟨hl, fun le => ?_, fun lt => ?_⟩⟩⟩)
  · by_cases z : T (7 + l) = 1
    · have a := hl2.1 z
      have b := h15 l hl.1 hl.2 z
      omega
    · exact k0 z
  · by_cases z : T (7 + l) = 1
    · exact k1 z
    · have a := hl2.2 z
      omega
set_option maxHeartbeats 1000000 in
theorem s_Laws_result {K : Int → Mem → Prop} {l k h sk : Int} (hd : 3 ≤ d) (hl : 0 ≤ l ∧ l < 4) (hk : 0 ≤ k ∧ k < T 4) (hh : 0 ≤ h ∧ h < 3) (hW : DW σ T) (h1 : T (7 + l) = 1) (hsk : l = 1 → sk = T (30 + h)) (q : ∀ τ, Fr [72] σ τ → K (rkF T l k h) τ) : CL E y_Laws_result d [vr 68, vi l, vr 14, vi k, vi sk] σ K := by
  have hr : isRoom 14 := Or.inr (Or.inl rfl)
  obtain ⟨hD, hM, hN, h15⟩ := id hW
  obtain ⟨m1, m2, m3, m4, m5, m6, m7, m8, m9, m10, m11⟩ := id hM
  obtain ⟨L1, L2, L3, L4⟩ := (m11 l hl.1 hl.2).2 h1
  have dl := hD.2.2.2.2.2.1
  obtain ⟨f70, f71⟩ := (hD.2.2.2.2.2.2 l hl.1 hl.2).1 h1
  obtain ⟨nk1, nk2⟩ := hN l hl.1 hl.2 h1
  have hw : wdB T k h := hM.wd hk hh
  have e14 : σ 14 3 = T 4 := hD.1.2.2.2.1
  refine c_Laws_result (b_Laws_result_0 hr (by omega) (s_Laws_told hl hW (fun _ => ⟨fun _ => ⟨hl, ?_⟩, fun z => absurd z (by decide)⟩) (fun z => absurd h1 z)))
  rw [f70]
  have loop : ∀ (m : Nat) (i : Int) (s : List Int) (τ : Mem) (o7 : Option AV), i + m = T (15 + l) → 0 ≤ i → Fr [72] σ τ → stk (τ 72) s → stkB s → wfl (cds T (T (11 + l)) m i) s.length → s.length ≤ 24 → (evs T k h (cds T (T (11 + l)) m i) s).headD 0 = rkF T l k h → Z E y_Laws_result d 21 [some (vr 68), some (vi l), some (vr 14), some (vi k), some (vi sk), some (vi (s.length : Nat)), some (vi (T (11 + l) + i)), o7] [] τ (ql K) := by
    intro m
    induction m with
    | zero =>
      intro i s τ o7 hi h0 hF hs hb hwf hn hev
      have t71 : τ 71 = σ 71 := hF.one (by decide)
      refine b_Laws_result_21 hr (by omega) ?_
      rw [t71, f71]
      simp only [cds, wfl] at hwf
      refine ⟨hl, fun _ => ⟨fun z => absurd z (by omega), fun _ => ?_⟩, fun z => absurd z (by omega)⟩
      match s, hwf, hs, hev with
      | [v], _, hs, hev =>
        have e0 : τ 72 0 = v := hs.1
        simp only [cds, evs, List.headD_cons] at hev
        rw [e0, hev]
        exact q τ hF
    | succ m ih =>
      intro i s τ o7 hi h0 hF hs hb hwf hn hev
      have t71 : τ 71 = σ 71 := hF.one (by decide)
      have t69 : τ 69 = σ 69 := hF.one (by decide)
      have t18 : τ 18 = σ 18 := hF.one (by decide)
      have t14 : τ 14 = σ 14 := hF.one (by decide)
      have ec := dl.2 (T (11 + l) + i) (by omega) (by omega)
      rw [show 136 + (T (11 + l) + i) = 136 + T (11 + l) + i by omega] at ec
      have n4 : l ≠ 1 → T (136 + T (11 + l) + i) ≠ 1004 := fun hn1 => by
        have := nk2 hn1 (T (11 + l) + i) (by omega) (by omega)
        rwa [show 136 + (T (11 + l) + i) = 136 + T (11 + l) + i by omega] at this
      refine b_Laws_result_21 hr (by omega) ?_
      rw [t71, f71, t69, ec]
      simp only [cds, wfl] at hwf
      simp only [cds, evs] at hev
      generalize T (136 + T (11 + l) + i) = cd at hwf hev n4 ⊢
      refine ⟨hl, fun z => absurd z (by omega), fun _ => ⟨fun z => absurd z (by omega), fun _ => ⟨⟨by omega, by omega⟩, fun hlt => ?_, fun hge => ?_⟩⟩⟩
      · have c3 : cd < 3000 := by
          by_cases c : cd < 3000
          · exact c
          · rw [trc_b (by omega)] at hlt; omega
        rw [if_pos c3] at hwf
        have push : ∀ v a7, (if cd < 1000 then cd else wdF T (cd - 1000) k h) = v → Z E y_Laws_result d 21 [some (vr 68), some (vi l), some (vr 14), some (vi k), some (vi sk), some (vi (w32 ((s.length : Nat) + 1))), some (vi (w32 (T (11 + l) + i + 1))), some (vi a7)] [] (up τ 72 (s.length : Nat) v) (ql K) := by
          intro v a7 hv
          rw [wid (x := ((s.length : Nat) : Int) + 1) (by omega) (by omega), wid (x := T (11 + l) + i + 1) (by omega) (by omega), show T (11 + l) + i + 1 = T (11 + l) + (i + 1) by omega]
          have := ih (i + 1) (v :: s) (up τ 72 (s.length : Nat) v) (some (vi a7)) (by omega) (by omega) (hF.up (by simp)) ⟨up_same _ _ _ _, stk_congr hs (fun j j0 j1 => up_nk (by omega))⟩ (by
            have := evc_b (c := cd) hw hb ⟨hwf.1, fun _ => hwf.2.1⟩
            unfold evc at this; rw [if_pos c3, hv] at this; exact this) hwf.2.2.2 (by simp only [List.length_cons]; omega) (by
            rw [← hev]; unfold evc; rw [if_pos c3, hv])
          simpa using this
        refine b_Laws_result_101 hr (by omega) ⟨fun z => absurd z (by omega), fun _ => ⟨fun z => absurd z (by omega), fun _ => ⟨fun ne => ⟨fun lt => ?_, fun ge => ?_⟩, fun e => ?_⟩⟩⟩
        · have c1 : cd < 1000 := by
            by_cases c : cd < 1000
            · exact c
            · by_cases c4 : cd = 1004
              · rw [c4] at lt; exact absurd lt (by decide)
              · obtain ⟨w, w1, w2, -⟩ := trc_c (T := T) (c := cd) (k := k) (h := h) ⟨by omega, by omega⟩
                omega
          rw [trc_a c1]
          exact ⟨⟨by omega, by omega⟩, push cd _ (if_pos c1)⟩
        · have c1 : ¬ cd < 1000 := fun c => by rw [trc_a c] at ge; omega
          have c4 : cd ≠ 1004 := fun c => by rw [c] at ne; exact ne (by decide)
          obtain ⟨w, w1, w2, w3⟩ := trc_c (T := T) (c := cd) (k := k) (h := h) ⟨by omega, by omega⟩
          rw [w1, wid (x := 1000 + w - 1000) (by omega) (by omega), show 1000 + w - 1000 = w by omega]
          refine s_Room_fact (by omega) hr (by rw [t14, e14]; omega) (by rw [t14, e14]; exact hk) w2 ?_
          have ef : τ (14 + 4) (7 * k + w) = T (37 + 6 * w + k) := by
            show τ 18 (7 * k + w) = _
            rw [t18]; exact hD.2.2.2.1 k w hk.1 (by omega) w2.1 w2.2
          rw [ef]
          exact ⟨⟨by omega, by omega⟩, push _ _ (by rw [if_neg c1, w3])⟩
        · have c4 : cd = 1004 := by
            by_cases c : cd < 1000
            · rw [trc_a c] at e; omega
            · by_cases c4 : cd = 1004
              · exact c4
              · obtain ⟨w, w1, w2, -⟩ := trc_c (T := T) (c := cd) (k := k) (h := h) ⟨by omega, by omega⟩
                omega
          have l1 : l = 1 := by
            by_cases z : l = 1
            · exact z
            · exact absurd c4 (n4 z)
          refine ⟨⟨by omega, by omega⟩, push sk _ ?_⟩
          rw [if_neg (by omega), c4, hsk l1]; rfl
      · have c3 : ¬ cd < 3000 := fun c => by
          rw [if_pos c] at hwf
          by_cases c1 : cd < 1000
          · rw [trc_a c1] at hge; omega
          · by_cases c4 : cd = 1004
            · rw [c4] at hge; exact absurd hge (by decide)
            · obtain ⟨w, w1, w2, -⟩ := trc_c (T := T) (c := cd) (k := k) (h := h) ⟨by omega, by omega⟩
              omega
        rw [if_neg c3] at hwf
        rw [trc_b (by omega)]
        match s, hwf, hs, hb, hev, hn with
        | b :: a :: s, hwf, hs, hb, hev, hn =>
          obtain ⟨s1, s2, s3⟩ := hs
          simp only [List.length_cons] at *
          have e2 : τ 72 ((s.length : Int) + 1) = b := by rw [← s1]; rfl
          rw [wid (x := ((s.length + 1 + 1 : Nat) : Int) - 2) (by omega) (by omega), wid (x := ((s.length + 1 + 1 : Nat) : Int) - 1) (by omega) (by omega), wid (x := ((s.length + 1 + 1 : Nat) : Int) + -1) (by omega) (by omega), show ((s.length + 1 + 1 : Nat) : Int) - 2 = s.length by omega, show ((s.length + 1 + 1 : Nat) : Int) - 1 = s.length + 1 by omega, show ((s.length + 1 + 1 : Nat) : Int) + -1 = s.length + 1 by omega]
          rw [e2, s2]
          refine ⟨fun z => absurd z (by omega), fun _ => ⟨⟨by omega, by omega⟩, ⟨by omega, by omega⟩, s_Laws_joined (by omega) (by omega) (hb a (by simp)) (hb b (by simp)) ?_⟩⟩
          rw [wid (x := T (11 + l) + i + 1) (by omega) (by omega), show T (11 + l) + i + 1 = T (11 + l) + (i + 1) by omega]
          have := ih (i + 1) (btw cd a b :: s) (up τ 72 s.length (btw cd a b)) (some (vi (cd - 1800))) (by omega) (by omega) (hF.up (by simp)) ⟨up_same _ _ _ _, stk_congr s3 (fun j j0 j1 => up_nk (by omega))⟩ (by
            intro v hv
            rcases List.mem_cons.mp hv with rfl | hv
            · exact clp_b (by decide)
            · exact hb v (by simp [hv])) (by simpa using hwf.2.2) (by simp only [List.length_cons]; omega) (by
            rw [← hev]; unfold evc; rw [if_neg (by omega)])
          simpa using this
        | [], hwf, _, _, _, _ => exact absurd hwf.2.1 (by simp)
        | [a], hwf, _, _, _, _ => exact absurd hwf.2.1 (by simp)
  have := loop (T (15 + l)).toNat 0 [] σ none (by omega) (by omega) Fr.rf trivial (fun v hv => by cases hv) L4 (by simp) rfl
  rw [show T (11 + l) + 0 = T (11 + l) by omega] at this
  exact this
/-- a law, or what stands for it where it is not told -/
theorem s_Laws_or {A : Mem → Prop} {B : Int → Mem → Prop} {l k h sk m : Int} (hd : 3 ≤ d) (hl : 0 ≤ l ∧ l < 4) (hk : 0 ≤ k ∧ k < T 4) (hh : 0 ≤ h ∧ h < 3) (hm : 0 ≤ m ∧ m ≤ 999) (hW : DW σ T) (hsk : l = 1 → sk = T (30 + h)) (k0 : T (7 + l) ≠ 1 → A σ) (k1 : T (7 + l) = 1 → ∀ τ, Fr [72] σ τ → B (clp 0 m (rkF T l k h)) τ) : CI E y_Laws_told d [vr 68, vi l] σ (fun x1 τ1 => (x1 = 0 → A τ1) ∧ (x1 ≠ 0 → CL E y_Laws_result d [vr 68, vi l, vr 14, vi k, vi sk] τ1 (fun x2 τ2 => CI E y_Laws_within d [vl x2, vi 0, vi m] τ2 (fun x3 τ3 => B x3 τ3)))) := by
  refine s_Laws_told hl hW (fun h1 => ⟨fun z => absurd z (by decide), fun _ => ?_⟩) (fun h1 => ⟨fun _ => k0 h1, fun z => absurd rfl z⟩)
  exact s_Laws_result hd hl hk hh hW h1 hsk (fun τ hF => s_Laws_within (by omega) hm.1 ⟨by decide, by omega⟩ (k1 h1 τ hF))
def WO (T : TB) (τ : Mem) (k : Int) : Prop := ∀ y : Int, 0 ≤ y → y < k → τ 20 y = opF T y ∧ τ 21 y = mdF T y ∧ τ 22 y = shF T y ∧ (0 ≤ τ 24 y ∧ τ 24 y < 2 ^ (T 2).toNat) ∧ ∀ h : Int, 0 ≤ h → h < T 2 → τ 23 (3 * y + h) = cpF T y h ∧ bt (τ 24 y) h = bt (T (27 + h)) (T (43 + y))
theorem WO.cg {τ υ : Mem} {k : Int} (h2 : T 2 ≤ 3) (h : WO T τ k) (e : ∀ c, (c = 20 ∨ c = 21 ∨ c = 22 ∨ c = 24) → ∀ y : Int, y < k → υ c y = τ c y) (e3 : ∀ y : Int, y < 3 * k → υ 23 y = τ 23 y) : WO T υ k := by
  intro y y0 y1
  rw [e 20 (by omega) y y1, e 21 (by omega) y y1, e 22 (by omega) y y1, e 24 (by omega) y y1]
  obtain ⟨a, b, c, f, g⟩ := h y y0 y1
  exact ⟨a, b, c, f, fun x x0 x1 => by rw [e3 _ (by omega)]; exact g x x0 x1⟩
theorem WO.up {τ : Mem} {k x v : Int} {c : Nat} (h2 : T 2 ≤ 3) (h : WO T τ k) (hc : c ≠ 23 ∧ k ≤ x ∨ c = 23 ∧ 3 * k ≤ x) : WO T (up τ c x v) k := by
  refine h.cg h2 (fun c2 h3 y hy => ?_) (fun y hy => ?_)
  · by_cases z : c2 = c
    · exact up_nk (by omega)
    · exact up_nc z
  · by_cases z : (23 : Nat) = c
    · exact up_nk (by omega)
    · exact up_nc z
theorem WO.fr {τ υ : Mem} {k : Int} (h2 : T 2 ≤ 3) (h : WO T τ k) (hF : Fr [72] τ υ) : WO T υ k := h.cg h2 (fun c hc y _ => by rw [hF.one (by omega)]) (fun y _ => by rw [hF.one (by decide)])
set_option maxHeartbeats 1000000 in
theorem s_Laws_workOut {K : Mem → Prop} (hd : 5 ≤ d) (hW : DW σ T) (q : ∀ τ, Fr woC σ τ → HR τ 14 T → K τ) : CV E y_Laws_workOut d [vr 68, vr 14] σ K := by
  have hr : isRoom 14 := Or.inr (Or.inl rfl)
  obtain ⟨hD, hM, hN, h15⟩ := id hW
  obtain ⟨m1, m2, m3, m4, m5, m6, m7, m8, m9, m10, m11⟩ := id hM
  have W01 : ∀ l : Int, 0 ≤ l → l < 4 → T (7 + l) ≠ 1 → T (7 + l) = 0 := fun l l0 l1 z => (m11 l l0 l1).1.elim id (fun y => absurd y z)
  have f72 : ∀ {τ υ : Mem}, Fr woC σ τ → Fr [72] τ υ → Fr woC σ υ := fun h g => h.tr (g.wk (by decide))
  refine c_Laws_workOut (b_Laws_workOut_0 hr ?_)
  have outer : ∀ (c : Nat) (k : Int) (τ : Mem) (o3 o4 : Option AV), k + c = T 4 → 0 ≤ k → Fr woC σ τ → WO T τ k → Z E y_Laws_workOut d 2 [some (vr 68), some (vr 14), some (vi k), o3, o4] [] τ (qv K) := by
    intro c
    induction c with
    | zero =>
      intro k τ o3 o4 hc h0 hF hO
      have ek : k = T 4 := by omega
      subst ek
      obtain ⟨⟨d1, d2, d3, d4, d5, d6⟩, -⟩ := hW.fr hF
      refine b_Laws_workOut_2 hr (by omega) ⟨fun _ => q τ hF ?_, fun z => absurd z (by rw [d1.2.2.2.1]; omega)⟩
      exact ⟨⟨d1.1, d1.2.1, d1.2.2.1, d1.2.2.2.1, d1.2.2.2.2.1, d1.2.2.2.2.2.1, d1.2.2.2.2.2.2.1⟩, d2.1, d3, fun k w k0 k1 w0 w1 => d4 k w k0 (by omega) w0 w1, d5, hO⟩
    | succ c ih =>
      intro k τ o3 o4 hc h0 hF hO
      have hk : 0 ≤ k ∧ k < T 4 := ⟨h0, by omega⟩
      have mk := m10 k hk.1 hk.2
      -- the hands
      have inner : ∀ (b : Nat) (h : Int) (υ : Mem) (o4 : Option AV), h + b = T 2 → 0 ≤ h → Fr woC σ υ → WO T υ k → υ 20 k = opF T k → υ 21 k = mdF T k → υ 22 k = shF T k → (0 ≤ υ 24 k ∧ υ 24 k < 2 ^ h.toNat) → (∀ x : Int, 0 ≤ x → x < h → υ 23 (3 * k + x) = cpF T k x ∧ bt (υ 24 k) x = bt (T (27 + x)) (T (43 + k))) → Z E y_Laws_workOut d 131 [some (vr 68), some (vr 14), some (vi k), some (vi h), o4] [] υ (qv K) := by
        intro b
        induction b with
        | zero =>
          intro h υ o4 hb hh0 hFu hOu e20 e21 e22 e24 ex
          have eh : h = T 2 := by omega
          subst eh
          have d1 := (hW.fr hFu).1.1
          refine b_Laws_workOut_131 hr (by omega) ⟨fun _ => ?_, fun z => absurd z (by rw [d1.2.1]; omega)⟩
          rw [wid (x := k + 1) (by omega) (by omega)]
          refine ih (k + 1) υ _ _ (by omega) (by omega) hFu (fun y y0 y1 => ?_)
          by_cases ey : y = k
          · subst ey; exact ⟨e20, e21, e22, e24, ex⟩
          · exact hOu y y0 (by omega)
        | succ b ihb =>
          intro h υ o4 hb hh0 hFu hOu e20 e21 e22 e24 ex
          have hWu := hW.fr hFu
          obtain ⟨d1, d2, d3, d4, d5, d6⟩ := id hWu.1
          have hh : 0 ≤ h ∧ h < 3 := ⟨hh0, by omega⟩
          have dh := d2.1 h hh0 (by omega)
          have mh := m8 h hh.1 hh.2
          have go : ∀ (v : Int) (τ2 : Mem), Fr [72] υ τ2 → v = cpF T k h → Z E y_Laws_workOut d 207 [some (vr 68), some (vr 14), some (vi k), some (vi h), some (vi (υ (14 + 2) h))] [vi v, vi (w32 (w32 (k * 3) + h)), vr (14 + 9)] τ2 (qv K) := by
            intro v τ2 hF2 hv
            have hF3 := f72 hFu hF2
            have g1 : τ2 14 = υ 14 := hF2.one (by decide)
            have g18 : τ2 18 = υ 18 := hF2.one (by decide)
            have g24 : τ2 24 = υ 24 := hF2.one (by decide)
            have g15 : τ2 15 = υ 15 := hF2.one (by decide)
            refine b_Laws_workOut_207 hr (by omega) ?_
            rw [wid (x := k * 3) (by omega) (by omega), wid (x := k * 3 + h) (by omega) (by omega), show k * 3 + h = 3 * k + h by omega]
            refine ⟨⟨by omega, by omega⟩, ⟨by omega, by omega⟩, hh, s_Room_fact (by omega) hr (by rw [up_nc (by decide), g1, d1.2.2.2.1]; omega) (by rw [up_nc (by decide), g1, d1.2.2.2.1]; exact hk) (by omega) ?_⟩
            have ef : up τ2 (14 + 9) (3 * k + h) v (14 + 4) (7 * k + 1) = T (43 + k) := by
              rw [up_nc (by decide)]
              show τ2 18 (7 * k + 1) = _
              rw [g18, d4 k 1 hk.1 (by omega) (by omega) (by omega), show 37 + 6 * 1 + k = 43 + k by omega]
            have e1 : τ2 (14 + 1) h = T (27 + h) := by show τ2 15 h = _; rw [g15]; exact dh.1
            have e10 : τ2 (14 + 10) k = υ 24 k := by show τ2 24 k = _; rw [g24]
            rw [ef, e1, e10, bit_eq (by unfold i32; omega) (by omega), wid (x := h + 1) (by omega) (by omega)]
            have rb := rdB (h := h) (s := υ 24 k) (b := bt (T (27 + h)) (T (43 + k))) hh e24 (bt_01 _ _)
            have t24 : ∀ w : Int, up (up τ2 (14 + 9) (3 * k + h) v) (14 + 10) k w 24 k = w := fun w => up_same _ 24 k w
            refine ihb (h + 1) _ _ (by omega) (by omega) ((hF3.up (by decide)).up (by decide)) (((hOu.fr m2.2 hF2).up m2.2 (Or.inr ⟨rfl, by omega⟩)).up m2.2 (Or.inl ⟨by decide, Int.le_refl _⟩)) ?_ ?_ ?_ ?_ (fun x x0 x1 => ?_)
            · rw [up_nc (by decide), up_nc (by decide), hF2.one (by decide)]; exact e20
            · rw [up_nc (by decide), up_nc (by decide), hF2.one (by decide)]; exact e21
            · rw [up_nc (by decide), up_nc (by decide), hF2.one (by decide)]; exact e22
            · rw [t24, show (h + 1).toNat = h.toNat + 1 by omega]; exact rb.1
            · rw [t24]
              by_cases z : x = h
              · subst z
                refine ⟨?_, rb.2.1⟩
                rw [up_nc (by decide)]
                show up τ2 23 (3 * k + x) v 23 (3 * k + x) = _
                rw [up_same, hv]
              · rw [rb.2.2 x x0 (by omega), up_nc (by decide), up_nk (by omega), hF2.one (by decide)]
                exact ex x x0 (by omega)
          refine b_Laws_workOut_131 hr (by omega) ⟨fun z => absurd z (by rw [d1.2.1]; omega), fun _ => ⟨fun z => absurd z (by omega), fun _ => ⟨hh, ?_⟩⟩⟩
          refine s_Laws_or (h := h) (by omega) (by decide) hk hh (by decide) hWu (fun _ => dh.2) (fun h1 => ?_) (fun h1 τ2 hF2 => go _ τ2 hF2 ?_)
          · refine s_Room_fact (by omega) hr (by rw [d1.2.2.2.1]; omega) (by rw [d1.2.2.2.1]; exact hk) (by omega) ?_
            have ef : υ (14 + 4) (7 * k + 2) = T (49 + k) := by
              show υ 18 (7 * k + 2) = _
              rw [d4 k 2 hk.1 (by omega) (by omega) (by omega), show 37 + 6 * 2 + k = 49 + k by omega]
            have e2 : υ (14 + 2) h = T (30 + h) := dh.2
            rw [ef, e2, wid (x := T (49 + k) * 5) (by omega) (by omega), wid (x := T (49 + k) * 5 - T (30 + h)) (by omega) (by omega)]
            refine s_Laws_within (by omega) (by decide) (by decide) ?_
            have g2 := go (clp 1 999 (T (49 + k) * 5 - T (30 + h))) υ Fr.rf ?_
            · rw [e2] at g2; exact g2
            · have h8 : T 8 ≠ 1 := h1
              unfold cpF clp
              rw [if_neg h8]
              (repeat' split) <;> omega
          · unfold cpF
            have h8 : T 8 = 1 := h1
            rw [if_pos h8]
      have at88 : ∀ (v : Int) (υ : Mem), Fr woC σ υ → WO T υ k → υ 20 k = opF T k → v = mdF T k → Z E y_Laws_workOut d 88 [some (vr 68), some (vr 14), some (vi k), o3, o4] [vi v, vi k, vr (14 + 7)] υ (qv K) := by
        intro v υ hFu hOu e20 hv
        have hF2 : Fr woC σ (up υ (14 + 7) k v) := hFu.up (by decide)
        have hO2 : WO T (up υ (14 + 7) k v) k := hOu.up m2.2 (Or.inl ⟨by decide, Int.le_refl _⟩)
        have e20b : up υ (14 + 7) k v 20 k = opF T k := by rw [up_nc (by decide)]; exact e20
        have e21b : up υ (14 + 7) k v 21 k = mdF T k := (up_same υ 21 k v).trans hv
        refine b_Laws_workOut_88 hr (by omega) ⟨⟨by omega, by omega⟩, ?_⟩
        generalize up υ (14 + 7) k v = τ2 at hF2 hO2 e20b e21b ⊢
        have fin : ∀ (w : Int) (τ3 : Mem), Fr [72] τ2 τ3 → w = shF T k → (0 ≤ k ∧ k < 6) ∧ Z E y_Laws_workOut d 131 [some (vr 68), some (vr 14), some (vi k), some (vi 0), o4] [] (up (up τ3 (14 + 8) k w) (14 + 10) k 0) (qv K) := by
          intro w τ3 hF3 hw
          refine ⟨⟨by omega, by omega⟩, inner (T 2).toNat 0 _ _ (by omega) (by omega) (((f72 hF2 hF3).up (by decide)).up (by decide)) (((hO2.fr m2.2 hF3).up m2.2 (Or.inl ⟨by decide, Int.le_refl _⟩)).up m2.2 (Or.inl ⟨by decide, Int.le_refl _⟩)) ?_ ?_ ?_ ?_ (fun x x0 x1 => absurd x1 (by omega))⟩
          · rw [up_nc (by decide), up_nc (by decide), hF3.one (by decide)]; exact e20b
          · rw [up_nc (by decide), up_nc (by decide), hF3.one (by decide)]; exact e21b
          · rw [up_nc (by decide)]; exact (up_same τ3 22 k w).trans hw
          · have t24 : up (up τ3 (14 + 8) k w) (14 + 10) k 0 24 k = 0 := up_same _ 24 k 0
            rw [t24]; decide
        refine s_Laws_or (h := 0) (by omega) (by decide) hk (by decide) (by decide) (hW.fr hF2) (fun z => absurd z (by decide)) (fun h1 => fin 10 _ Fr.rf ?_) (fun h1 τ3 hF3 => fin _ τ3 hF3 ?_)
        · have h0 : T 10 = 0 := W01 3 (by decide) (by decide) h1
          unfold shF; rw [if_pos h0]
        · have h0 : T 10 = 1 := h1
          unfold shF; rw [if_neg (by omega)]
      have at48 : ∀ (v : Int) (υ : Mem), Fr woC σ υ → WO T υ k → v = opF T k → Z E y_Laws_workOut d 48 [some (vr 68), some (vr 14), some (vi k), o3, o4] [vi v, vi k, vr (14 + 6)] υ (qv K) := by
        intro v υ hFu hOu hv
        have hF2 : Fr woC σ (up υ (14 + 6) k v) := hFu.up (by decide)
        have hO2 : WO T (up υ (14 + 6) k v) k := hOu.up m2.2 (Or.inl ⟨by decide, Int.le_refl _⟩)
        have e20b : up υ (14 + 6) k v 20 k = opF T k := (up_same υ 20 k v).trans hv
        refine b_Laws_workOut_48 hr (by omega) ⟨⟨by omega, by omega⟩, ?_⟩
        generalize up υ (14 + 6) k v = τ2 at hF2 hO2 e20b ⊢
        have hW2 := hW.fr hF2
        obtain ⟨d1, d2, d3, d4, d5, d6⟩ := id hW2.1
        refine s_Laws_or (h := 0) (by omega) (by decide) hk (by decide) (by decide) hW2 (fun z => absurd z (by decide)) (fun h1 => ?_) (fun h1 τ3 hF3 => at88 _ τ3 (f72 hF2 hF3) (hO2.fr m2.2 hF3) (by rw [hF3.one (by decide)]; exact e20b) ?_)
        · refine s_Room_fact (by omega) hr (by rw [d1.2.2.2.1]; omega) (by rw [d1.2.2.2.1]; exact hk) (by omega) ?_
          have ef : τ2 (14 + 4) (7 * k + 4) = T (61 + k) := by
            show τ2 18 (7 * k + 4) = _
            rw [d4 k 4 hk.1 (by omega) (by omega) (by omega), show 37 + 6 * 4 + k = 61 + k by omega]
          rw [ef, wid (x := T (61 + k) + 3) (by omega) (by omega)]
          refine at88 _ τ2 hF2 hO2 e20b ?_
          have h0 : T 9 = 0 := W01 2 (by decide) (by decide) h1
          unfold mdF; rw [if_pos h0]
        · have h0 : T 9 = 1 := h1
          unfold mdF; rw [if_neg (by omega)]
      have d1 := (hW.fr hF).1.1
      refine b_Laws_workOut_2 hr (by omega) ⟨fun z => absurd z (by rw [d1.2.2.2.1]; omega), fun _ => ⟨fun z => absurd z (by omega), fun _ => ?_⟩⟩
      refine s_Laws_or (h := 0) (by omega) (by decide) hk (by decide) (by decide) (hW.fr hF) (fun z => absurd z (by decide)) (fun h1 => at48 2 τ hF hO ?_) (fun h1 τ3 hF3 => at48 _ τ3 (f72 hF hF3) (hO.fr m2.2 hF3) ?_)
      · have h0 : T 7 = 0 := W01 0 (by decide) (by decide) h1
        unfold opF; rw [if_pos h0]
      · have h0 : T 7 = 1 := h1
        unfold opF; rw [if_neg (by omega)]
  exact outer (T 4).toNat 0 σ _ _ (by omega) (by omega) Fr.rf (fun y y0 y1 => absurd y1 (by omega))
end
