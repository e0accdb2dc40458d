/-! laws: codes behind what they join, reckoned with a stack -/
def clp (lo hi v : Int) : Int := if v < lo then lo else if hi < v then hi else v
def wdF (T : Int → Int) (c k h : Int) : Int := if c = 0 then T (49 + k) else if c = 1 then T (61 + k) else if c = 2 then T (67 + k) else if c = 3 then T (43 + k) else T (30 + h)
def btw (c a b : Int) : Int := clp (-1000000) 1000000 (if c = 3000 then a + b else if c = 3001 then a - b else a * b)
def evc (T : Int → Int) (k h : Int) (st : List Int) (c : Int) : List Int :=
  if c < 3000 then (if c < 1000 then c else wdF T (c - 1000) k h) :: st else match st with
    | b :: a :: st => btw c a b :: st
    | st => st
def evs (T : Int → Int) (k h : Int) : List Int → List Int → List Int
  | [], st => st
  | c :: cs, st => evs T k h cs (evc T k h st c)
/-- codes that can be reckoned from a stack of n on: never too few, never too many, one at the end -/
def wfl : List Int → Nat → Prop
  | [], n => n = 1
  | c :: cs, n => if c < 3000 then (0 ≤ c ∧ c ≤ 1004 ∧ n < 24 ∧ wfl cs (n + 1)) else (c ≤ 3002 ∧ 2 ≤ n ∧ wfl cs (n - 1))
def stk (f : Int → Int) : List Int → Prop
  | [] => True
  | v :: st => f st.length = v ∧ stk f st
theorem stk_congr {f f2 : Int → Int} : ∀ {st : List Int}, stk f st → (∀ i : Int, 0 ≤ i → i < st.length → f2 i = f i) → stk f2 st
  | [], _, _ => trivial
  | v :: st, h, q => ⟨by rw [q st.length (by omega) (by simp only [List.length_cons]; omega)]; exact h.1, stk_congr h.2 (fun i a b => q i a (by simp only [List.length_cons]; omega))⟩
/-- the numbers that a law takes fit -/
def wdB (T : Int → Int) (k h : Int) : Prop := ∀ c, 0 ≤ c → c ≤ 4 → 0 ≤ wdF T c k h ∧ wdF T c k h ≤ 999
def stkB (st : List Int) : Prop := ∀ v ∈ st, -1000000 ≤ v ∧ v ≤ 1000000
theorem clp_b {lo hi v : Int} (h : lo ≤ hi) : lo ≤ clp lo hi v ∧ clp lo hi v ≤ hi := by unfold clp; (repeat' split) <;> omega
theorem evc_b {T : Int → Int} {k h c : Int} {st : List Int} (hw : wdB T k h) (hs : stkB st) (hc : 0 ≤ c ∧ (c < 3000 → c ≤ 1004)) : stkB (evc T k h st c) := by
  unfold evc
  split
  · intro v hv
    rcases List.mem_cons.mp hv with rfl | hv
    · split
      · omega
      · have := hw (c - 1000) (by omega) (by omega); omega
    · exact hs v hv
  · split
    · rename_i b a st
      intro v hv
      rcases List.mem_cons.mp hv with rfl | hv
      · exact clp_b (by decide)
      · exact hs v (List.mem_cons_of_mem _ (List.mem_cons_of_mem _ hv))
    · exact hs
variable {E : EN} {d : Nat} {σ : Mem}
theorem s_between {K : Int → Mem → Prop} {c a b : Int} (hc : c = 3000 ∨ c = 3001 ∨ c = 3002) (ha : -1000000 ≤ a ∧ a ≤ 1000000) (hb : -1000000 ≤ b ∧ b ≤ 1000000) (q : K (btw c a b) σ) : CI E y_Mod_between d [vi c, vi a, vi b] σ K := by
  have fin : ∀ (s : Int) (o0 o1 o2 o3 o4 : Option AV), s = (if c = 3000 then a + b else if c = 3001 then a - b else a * b) → Z E y_Mod_between d 35 [o0, o1, o2, o3, o4] [vl s] σ (qi K) := by
    intro s o0 o1 o2 o3 o4 e
    refine b_Mod_between_35 (a0 := 0) (a1 := 0) (a2 := 0) ?_
    rw [lcm_le, lcm_gt, lcm_ge, lcm_lt]
    unfold btw clp at q
    rw [← e] at q
    refine ⟨fun h1 => ⟨fun h2 => ?_, fun h2 => ?_⟩, fun h1 => ?_⟩
    · rw [if_neg (by omega), if_neg (by omega)] at q
      rw [wid (by omega) (by omega)]; exact q
    · rw [if_pos (by omega)] at q; exact q
    · rw [if_neg (by omega), if_pos (by omega)] at q; exact q
  have hm1 : a * b ≤ 1000000000000 ∧ -1000000000000 ≤ a * b := by
    have h1 : a.natAbs * b.natAbs ≤ 1000000 * 1000000 := Nat.mul_le_mul (by omega) (by omega)
    rw [← Int.natAbs_mul] at h1
    omega
  refine c_Mod_between (b_Mod_between_0 ⟨fun h1 => ⟨fun h2 => ?_, fun h2 => ?_⟩, fun h1 => ?_⟩)
  · rw [wid64 (by omega) (by omega)]; exact fin _ _ _ _ _ _ (by rw [if_neg h1, if_neg h2])
  · rw [wid64 (by omega) (by omega)]; exact fin _ _ _ _ _ _ (by rw [if_neg h1, if_pos h2])
  · rw [wid64 (by omega) (by omega)]; exact fin _ _ _ _ _ _ (by rw [if_pos h1])
theorem s_wordFor {K : Int → Mem → Prop} {c k h : Int} (hk : 0 ≤ k ∧ k < 6) (hh : 0 ≤ h ∧ h < 3) (hc : 0 ≤ c) (q : K (wdF (σ 116) c k h) σ) : CI E y_Mod_wordFor d [vr 115, vi c, vi k, vi h] σ K := by
  refine c_Mod_wordFor (b_Mod_wordFor_0 ?_)
  rw [wid (x := 49 + k) (by omega) (by omega), wid (x := 61 + k) (by omega) (by omega), wid (x := 67 + k) (by omega) (by omega), wid (x := 43 + k) (by omega) (by omega), wid (x := 30 + h) (by omega) (by omega)]
  unfold wdF at q
  refine ⟨fun e => ⟨by omega, ?_⟩, fun e => ⟨by omega, ?_⟩, fun e => ⟨by omega, ?_⟩, fun e => ⟨by omega, ?_⟩, fun e => ⟨by omega, ?_⟩⟩
  · rw [if_pos e] at q; exact q
  · rw [if_neg (by omega), if_pos e] at q; exact q
  · rw [if_neg (by omega), if_neg (by omega), if_pos e] at q; exact q
  · rw [if_neg (by omega), if_neg (by omega), if_neg (by omega), if_pos e] at q; exact q
  · rw [if_neg (by omega), if_neg (by omega), if_neg (by omega), if_neg (by omega)] at q; exact q
/-- the codes of a law, from place i on -/
def cds (T : Int → Int) (f : Int) : Nat → Int → List Int
  | 0, _ => []
  | n + 1, i => T (136 + f + i) :: cds T f n (i + 1)
/-- a law that can be reckoned -/
def lawOK (T : Int → Int) (law : Int) : Prop := 0 ≤ T (11 + law) ∧ 0 ≤ T (15 + law) ∧ T (11 + law) + T (15 + law) ≤ 900 ∧ wfl (cds T (T (11 + law)) (T (15 + law)).toNat 0) 0
def rkF (T : Int → Int) (law k h : Int) : Int := (evs T k h (cds T (T (11 + law)) (T (15 + law)).toNat 0) []).headD 0
theorem wfl_len {T : Int → Int} {k h : Int} : ∀ {cs : List Int} {st : List Int}, wfl cs st.length → ∃ v, evs T k h cs st = [v]
  | [], st, hw => by
    simp only [wfl] at hw
    match st, hw with
    | [v], _ => exact ⟨v, rfl⟩
  | c :: cs, st, hw => by
    simp only [wfl] at hw
    simp only [evs]
    split at hw
    · rename_i hc
      refine wfl_len (cs := cs) ?_
      unfold evc; rw [if_pos hc]; exact hw.2.2.2
    · rename_i hc
      refine wfl_len (cs := cs) ?_
      unfold evc; rw [if_neg hc]
      match st, hw with
      | b :: a :: st, hw => simpa using hw.2.2
      | [], hw => exact absurd hw.2.1 (by simp)
      | [a], hw => exact absurd hw.2.1 (by simp)
theorem s_reckons {K : Int → Mem → Prop} {law k h most : Int} (hd : 1 ≤ d) (hl : 0 ≤ law ∧ law < 4) (hk : 0 ≤ k ∧ k < 6) (hh : 0 ≤ h ∧ h < 3) (hm : 0 ≤ most) (hL : lawOK (σ 116) law) (hw : wdB (σ 116) k h) (q : ∀ τ : Mem, Fr [120] σ τ → K (clp 0 most (rkF (σ 116) law k h)) τ) : CI E y_Mod_reckons d [vr 115, vi law, vi k, vi h, vi most] σ K := by
  obtain ⟨L1, L2, L3, L4⟩ := hL
  have w15 : w32 (15 + law) = 15 + law := wid (by omega) (by omega)
  have w11 : w32 (11 + law) = 11 + law := wid (by omega) (by omega)
  refine c_Mod_reckons (b_Mod_reckons_0 ?_)
  have loop : ∀ (m : Nat) (i : Int) (st : List Int) (τ : Mem) (o7 : Option AV), i + m = σ 116 (15 + law) → 0 ≤ i → Fr [120] σ τ → stk (τ 120) st → stkB st → wfl (cds (σ 116) (σ 116 (11 + law)) m i) st.length → st.length ≤ 24 → clp 0 most ((evs (σ 116) k h (cds (σ 116) (σ 116 (11 + law)) m i) st).headD 0) = clp 0 most (rkF (σ 116) law k h) → Z E y_Mod_reckons d 6 [some (vr 115), some (vi law), some (vi k), some (vi h), some (vi most), some (vi (st.length : Nat)), some (vi i), o7] [] τ (qi K) := by
    intro m
    induction m with
    | zero =>
      intro i st τ o7 hi h0 hF hs hb hwf hn hev
      have t116 : τ 116 = σ 116 := hF.one (by decide)
      refine b_Mod_reckons_6 hd ?_
      rw [w15, t116]
      refine ⟨by omega, fun _ => ?_, fun z => absurd z (by omega)⟩
      simp only [cds, wfl] at hwf
      match st, hwf, hs, hev with
      | [v], _, hs, hev =>
        have e0 : τ 120 0 = v := hs.1
        simp only [cds, evs, List.headD_cons] at hev
        rw [e0]
        have K0 := q τ hF
        rw [← hev] at K0
        unfold clp at K0
        refine ⟨fun a => ⟨fun b => ?_, fun b => ?_⟩, fun a => ?_⟩
        · rw [if_neg (by omega), if_neg (by omega)] at K0; exact K0
        · rw [if_neg (by omega), if_pos (by omega)] at K0; exact K0
        · rw [if_pos (by omega)] at K0; exact K0
    | succ m ih =>
      intro i st τ o7 hi h0 hF hs hb hwf hn hev
      have t116 : τ 116 = σ 116 := hF.one (by decide)
      have wix : w32 (w32 (136 + σ 116 (11 + law)) + i) = 136 + σ 116 (11 + law) + i := by rw [wid (x := 136 + σ 116 (11 + law)) (by omega) (by omega), wid (by omega) (by omega)]
      refine b_Mod_reckons_6 hd ?_
      rw [w15, w11, t116, wix]
      refine ⟨by omega, fun z => absurd z (by omega), fun _ => ⟨by omega, by omega, ?_⟩⟩
      simp only [cds, wfl] at hwf
      simp only [cds, evs] at hev
      generalize hcode : σ 116 (136 + σ 116 (11 + law) + i) = cd at hwf hev ⊢
      refine ⟨fun hge => ?_, fun hlt => ?_⟩
      · rw [if_neg (by omega)] at hwf
        match st, hwf, hs, hb, hev, hn with
        | b :: a :: st, hwf, hs, hb, hev, hn =>
          obtain ⟨s1, s2, s3⟩ := hs
          simp only [List.length_cons] at *
          have e1 : w32 (((st.length + 1 + 1 : Nat) : Int) + -1) = st.length + 1 := by rw [wid (by omega) (by omega)]; omega
          rw [e1, wid (x := (st.length : Int) + 1 - 1) (by omega) (by omega), show (st.length : Int) + 1 - 1 = st.length by omega]
          have e2 : τ 120 ((st.length : Int) + 1) = b := by rw [← s1]; rfl
          rw [e2, s2]
          refine ⟨by omega, by omega, s_between (by omega) (hb a (by simp)) (hb b (by simp)) ?_⟩
          rw [wid (by omega) (by omega)]
          have := ih (i + 1) (btw cd a b :: st) (up τ 120 st.length (btw cd a b)) (some (vi cd)) (by omega) (by omega) (hF.up (by simp)) ⟨up_same _ _ _ _, stk_congr s3 (fun j j0 j1 => up_nk (by omega))⟩ (by
            intro v hv
            rcases List.mem_cons.mp hv with rfl | hv
            · exact clp_b (by decide)
            · exact hb v (by simp [hv])) (by simpa using hwf.2.2) (by simp only [List.length_cons]; omega) (by
            rw [← hev]; unfold evc; rw [if_neg (by omega)])
          simpa using this
        | [], hwf, _, _, _, _ => exact absurd hwf.2.1 (by simp)
        | [a], hwf, _, _, _, _ => exact absurd hwf.2.1 (by simp)
      · rw [if_pos hlt] at hwf
        have push : ∀ v, (if cd < 1000 then cd else wdF (σ 116) (cd - 1000) k h) = v → Z E y_Mod_reckons d 6 [some (vr 115), some (vi law), some (vi k), some (vi h), some (vi most), some (vi (w32 ((st.length : Nat) + 1))), some (vi (w32 (i + 1))), some (vi cd)] [] (up τ 120 (st.length : Nat) v) (qi K) := by
          intro v hv
          rw [wid (by omega) (by omega), wid (by omega) (by omega)]
          have := ih (i + 1) (v :: st) (up τ 120 (st.length : Nat) v) (some (vi cd)) (by omega) (by omega) (hF.up (by simp)) ⟨up_same _ _ _ _, stk_congr hs (fun j j0 j1 => up_nk (by omega))⟩ (by
            have := evc_b (c := cd) hw hb ⟨hwf.1, fun _ => hwf.2.1⟩
            unfold evc at this; rw [if_pos hlt, hv] at this; exact this) hwf.2.2.2 (by simp only [List.length_cons]; omega) (by
            rw [← hev]; unfold evc; rw [if_pos hlt, hv])
          simpa using this
        refine ⟨fun hge => ?_, fun hl2 => ⟨by omega, push cd (if_pos hl2)⟩⟩
        rw [wid (x := cd - 1000) (by omega) (by omega)]
        refine s_wordFor hk hh (by omega) ⟨by omega, ?_⟩
        rw [t116]
        exact push _ (if_neg (by omega))
  exact loop (σ 116 (15 + law)).toNat 0 [] σ _ (by omega) (by omega) Fr.rf trivial (fun v hv => by cases hv) L4 (by simp) rfl
