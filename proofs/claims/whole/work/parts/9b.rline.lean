/-! the reference reads lines -/
def rlK : List Int := [6, 7, 9, 10, 11, 12, 15]
def rlf (σ τ : Mem) : Prop := Fr [115, 119] σ τ ∧ keep rlK σ τ
theorem rlf.rf {σ : Mem} : rlf σ σ := ⟨Fr.rf, keep.rf⟩
theorem rlf.tr {σ τ υ : Mem} (h : rlf σ τ) (g : rlf τ υ) : rlf σ υ := ⟨h.1.tr g.1, h.2.tr g.2⟩
theorem rrf.l {σ τ : Mem} (h : rrf σ τ) : rlf σ τ := ⟨h.1, h.2.wk (by decide)⟩
theorem rlf.u9 {σ τ : Mem} {k v : Int} (h : rlf σ τ) : rlf σ (up τ 119 k v) := ⟨h.1.up (by decide), fun x hx => by rw [up_nc (by decide)]; exact h.2 x hx⟩
def FR (st : Int → Int) (τ : Mem) (r : Rs) : Prop := τ 115 11 = r.1 ∧ τ 115 12 = st r.2.1
section
variable {E : EN} {t : Int → Int} {n N : Int} {kd st vl en : Int → Int}
theorem FR.u {τ : Mem} {r : Rs} {k v : Int} (h : FR st τ r) : FR st (up τ 119 k v) r := ⟨by rw [up_nc (by decide)]; exact h.1, by rw [up_nc (by decide)]; exact h.2⟩
def RLO (t : Int → Int) (n N : Int) (kd st vl en : Int → Int) (σ τ : Mem) (j : Int) (r : Rs) : Prop := rlf σ τ ∧ (r.1 = 0 → RL0 t n N kd st vl en τ r.2.1 r.2.2 ∧ j < r.2.1) ∧ (r.1 ≠ 0 → FR st τ r)
theorem RLO.flt {σ τ : Mem} {j f i : Int} {T : TB} (hF : rlf σ τ) (hf : f ≠ 0) (h : FR st τ (fP kd f i T)) : RLO t n N kd st vl en σ τ j (fP kd f i T) := ⟨hF, fun z => absurd z (fP_n hf), fun _ => h⟩
theorem RL0.up {σ : Mem} {j k v : Int} {T : TB} (h : RL0 t n N kd st vl en σ j T) (hk : k ≠ 135) : RL0 t n N kd st vl en (up σ 119 k v) j (upT T k v) := by
  have h7 := h.2.2.2.2.2.2
  refine h.c119 (up_cell (by decide)) (up_cell (by decide)) ?_ ?_
  · rw [up_fn, h.2.2.2.1]
  · rw [upT_n (fun z => hk z.symm)]; exact h7
theorem t_failsF {d : Nat} {σ : Mem} {K : Mem → Prop} {j f : Int} {T : TB} (hT : TokOK t n N kd st vl en) (hs : RL0 t n N kd st vl en σ j T) (hf : f ≠ 0) (q : ∀ τ, rrf σ τ → (∀ U : TB, FR st τ (fP kd f j U)) → τ 115 11 ≠ 0 → K τ) : CV E y_Mod_fails d [vr 115, vi f] σ K :=
  t_fails (σ0 := σ) (j0 := 0) (T0 := T) (U := T) hT hs hf rrf.rf (fun τ hE h7 => q τ hE.1 (fun U => hE.2.2 (fP_n hf)) h7)
theorem t_takesN {d : Nat} {σ : Mem} {K : Int → Mem → Prop} {lo hi j : Int} {T : TB} (hd : 6 ≤ d) (hn : 0 ≤ n ∧ n ≤ 900) (hT : TokOK t n N kd st vl en) (hs : RL0 t n N kd st vl en σ j T) (k1 : kd j = 1 → lo ≤ vl j → vl j ≤ hi → j < N → ∀ τ, rrf σ τ → RL0 t n N kd st vl en τ (j + 1) T → K (vl j) τ) (k0 : ∀ f x τ, f ≠ 0 → (∀ T k, numP kd vl lo hi j T k = fP kd f j T) → rrf σ τ → (∀ U : TB, FR st τ (fP kd f j U)) → τ 115 11 ≠ 0 → K x τ) : CI E y_Mod_takesN d [vr 115, vi lo, vi hi] σ K := by
  have s6 := hs.2.2.2.2.2.1
  have rk := rk_i (kd_v hT ⟨s6.1, s6.2.1⟩).1
  refine c_Mod_takesN (b_Mod_takesN_0 (by omega) (t_is hs (fun e => ⟨fun _ => ?_, fun z => absurd z (by decide)⟩) (fun ne => ⟨fun z => absurd rfl z, fun _ => t_failsF hT hs (by decide) (fun τ hr hf h7 => b_Mod_takesN_37 (a1 := 0) (a2 := 0) (by omega) ⟨fun _ => k0 2 _ τ (by decide) (fun T k => ?_) hr hf h7, fun z => absurd z h7⟩)⟩)))
  · have k1' : kd j = 1 := by omega
    have v10 : σ 115 10 = vl j := hs.2.2.1.2.2.2 k1'
    rw [v10]
    refine s_within (fun hb => ⟨fun _ => b_Mod_takesN_37 (a1 := 0) (a2 := 0) (by omega) ⟨fun z => absurd hs.2.2.2.2.1 z, fun _ => ?_⟩, fun z => absurd z (by decide)⟩) (fun hb => ⟨fun z => absurd rfl z, fun _ => t_failsF hT hs (by decide) (fun τ hr hf h7 => b_Mod_takesN_37 (a1 := 0) (a2 := 0) (by omega) ⟨fun _ => k0 3 _ τ (by decide) (fun T k => ?_) hr hf h7, fun z => absurd z h7⟩)⟩)
    · have jl := kd_lt hT ⟨s6.1, s6.2.1⟩ (by omega : kd j ≠ 0)
      rw [v10]
      exact t_nx (by omega) hn hT hs jl (fun τ hr hs2 => k1 k1' hb.1 hb.2 jl τ hr hs2)
    · unfold numP; rw [if_pos k1', if_neg hb]
  · unfold numP; rw [if_neg (by omega)]
theorem t_takesND {d : Nat} {σ : Mem} {K : Int → Mem → Prop} {lo hi : Int} (hd : 1 ≤ d) (h : σ 115 11 ≠ 0) (k0 : ∀ x, K x σ) : CI E y_Mod_takesN d [vr 115, vi lo, vi hi] σ K :=
  c_Mod_takesN (b_Mod_takesN_0 hd (t_isD h ⟨fun z => absurd rfl z, fun _ => t_failsD h (b_Mod_takesN_37 (a1 := 0) (a2 := 0) hd ⟨fun _ => k0 _, fun z => absurd z h⟩)⟩))
theorem t_readCourt {d : Nat} {σ : Mem} {K : Mem → Prop} {j : Int} {T : TB} (hd : 7 ≤ d) (hn : 0 ≤ n ∧ n ≤ 900) (hT : TokOK t n N kd st vl en) (hs : RL0 t n N kd st vl en σ j T) (hj : j < N) (hP : PK T) (q : ∀ τ, RLO t n N kd st vl en σ τ j (pCourt kd vl j T) → K τ) : CV E y_Mod_readCourt d [vr 115] σ K := by
  have p3 := hP.2.2.2.1
  have h9 := hs.2.2.2.1
  refine c_Mod_readCourt (b_Mod_readCourt_0 (by omega) ?_)
  rw [h9]
  refine ⟨fun ne => ?_, fun e => t_failsF hT hs (by decide) (fun τ hr hf h7 => b_Mod_readCourt_17 (by omega) ⟨fun z => absurd z h7, fun _ => q τ ?_⟩)⟩
  · have er : pCourt kd vl j T = numP kd vl 0 100 (j + 1) T (fun v i => (0, i, ctP T v)) := by unfold pCourt; rw [if_neg ne]
    rw [er] at q
    refine b_Mod_readCourt_17 (by omega) ⟨fun _ => t_nx (by omega) hn hT hs hj (fun τ1 hr1 hs1 => t_takesN (by omega) hn hT hs1 (fun n1 n2 n3 jl τ2 hr2 hs2 => ?_) (fun f x τ2 hf hq hr2 hfl h7 => ⟨fun z => absurd z h7, fun _ => q τ2 ?_⟩)), fun z => absurd hs.2.2.2.2.1 z⟩
    · rw [numP_y n1 n2 n3] at q
      have g9 := hs2.2.2.2.1
      rw [wid (x := 33 + T 3) (by omega) (by omega), up_nk (by omega), g9, wid (x := T 3 + 1) (by omega) (by omega)]
      refine ⟨fun _ => ⟨⟨by omega, by omega⟩, q _ ⟨(hr1.l.tr hr2.l).u9.u9, fun _ => ⟨(hs2.up (by omega)).up (by decide), by show j < j + 1 + 1; omega⟩, fun z => absurd rfl z⟩⟩, fun z => absurd hs2.2.2.2.2.1 z⟩
    · rw [hq]; exact RLO.flt (hr1.l.tr hr2.l) hf (hfl T)
  · have er : pCourt kd vl j T = fP kd 4 j T := by unfold pCourt; rw [if_pos e]
    rw [er]; exact RLO.flt hr.l (by decide) (hf T)
theorem t_readHand {d : Nat} {σ : Mem} {K : Mem → Prop} {j : Int} {T : TB} (hd : 7 ≤ d) (hn : 0 ≤ n ∧ n ≤ 900) (hT : TokOK t n N kd st vl en) (hs : RL0 t n N kd st vl en σ j T) (hj : j < N) (hP : PK T) (q : ∀ τ, RLO t n N kd st vl en σ τ j (pHand kd vl j T) → K τ) : CV E y_Mod_readHand d [vr 115] σ K := by
  have p2 := hP.2.2.1
  have h9 := hs.2.2.2.1
  have hN9 := hs.2.2.2.2.2.1
  refine c_Mod_readHand (b_Mod_readHand_0 (by omega) ?_)
  rw [h9]
  refine ⟨fun ne => ⟨fun _ => ?_, fun z => absurd hs.2.2.2.2.1 z⟩, fun e => t_failsF hT hs (by decide) (fun τ hr hf h7 => ⟨fun z => absurd z h7, fun _ => q τ ?_⟩)⟩
  · have er : pHand kd vl j T = pHl kd vl T (pSk kd vl T) 1000 (j + 1) 0 := by unfold pHand; rw [if_neg ne]
    rw [er] at q
    have dead99 : ∀ (a2 s0 : Int) (τ : Mem) (o3 o4 : Option AV), τ 115 11 ≠ 0 → K τ → Z E y_Mod_readHand d 99 [some (vr 115), some (vi (T 2)), some (vi a2), o3, o4] [vi s0] τ (qv K) := fun a2 s0 τ o3 o4 h7 hk => b_Mod_readHand_99 ⟨fun z => absurd z h7, fun _ => hk⟩
    have live99 : ∀ (a2 s0 i : Int) (τ : Mem) (o3 o4 : Option AV), rrf σ τ → RL0 t n N kd st vl en τ i T → j < i → (∀ τ2, RLO t n N kd st vl en σ τ2 j (0, i, hdP T a2 s0) → K τ2) → Z E y_Mod_readHand d 99 [some (vr 115), some (vi (T 2)), some (vi a2), o3, o4] [vi s0] τ (qv K) := by
      intro a2 s0 i τ o3 o4 hr hs2 hji qq
      refine b_Mod_readHand_99 ?_
      have g9 := hs2.2.2.2.1
      rw [wid (x := 27 + T 2) (by omega) (by omega), wid (x := 30 + T 2) (by omega) (by omega), up_nk (by omega), up_nk (by omega), g9, wid (x := T 2 + 1) (by omega) (by omega)]
      exact ⟨fun _ => ⟨⟨by omega, by omega⟩, ⟨by omega, by omega⟩, qq _ ⟨hr.l.u9.u9.u9, fun _ => ⟨((hs2.up (by omega)).up (by omega)).up (by decide), hji⟩, fun z => absurd rfl z⟩⟩, fun z => absurd hs2.2.2.2.2.1 z⟩
    have loop : ∀ (F : Nat) (i s : Int) (τ : Mem) (o3 o4 : Option AV), N < i + F → rrf σ τ → RL0 t n N kd st vl en τ i T → j < i → (∀ τ2, RLO t n N kd st vl en σ τ2 j (pHl kd vl T (pSk kd vl T) F i s) → K τ2) → Z E y_Mod_readHand d 53 [some (vr 115), some (vi (T 2)), some (vi s), o3, o4] [] τ (qv K) := by
      intro F
      induction F with
      | zero => intro i s τ o3 o4 hi hr hs2; have := hs2.2.2.2.2.2.1; intros; omega
      | succ F ih =>
        intro i s τ o3 o4 hi hr hs2 hji qq
        have e : pHl kd vl T (pSk kd vl T) (F + 1) i s = numP kd vl 0 3 i T (fun v i => if kd i = 1 then pHl kd vl T (pSk kd vl T) F i (ior s (ish 1 v)) else pSk kd vl T (ior s (ish 1 v)) i) := rfl
        rw [e] at qq
        refine b_Mod_readHand_53 (by omega) (t_takesN (by omega) hn hT hs2 (fun n1 n2 n3 jl τ1 hr1 hs3 => ⟨fun z => absurd hs3.2.2.2.2.1 z, fun _ => ?_⟩) (fun f x τ1 hf hq hr1 hfl h7 => ⟨fun _ => b_Mod_readHand_33 (by omega) ⟨fun _ => t_eatsD (by omega) h7 ⟨fun _ => dead99 _ _ _ _ _ h7 (qq τ1 ?_), fun z => absurd rfl z⟩, fun z => absurd z h7⟩, fun z => absurd z h7⟩))
        · rw [numP_y n1 n2 n3] at qq
          have t6 := hs3.2.2.2.2.2.1
          have rk := rk_i (kd_v hT ⟨t6.1, t6.2.1⟩).1
          have hr3 := hr.tr hr1
          refine b_Mod_readHand_33 (by omega) ⟨fun z => absurd hs3.2.2.2.2.1 z, fun _ => ⟨fun z => absurd z (by decide), fun _ => t_is hs3 (fun e23 => ⟨fun z => absurd z (by decide), fun _ => ?_⟩) (fun n23 => ⟨fun _ => ?_, fun z => absurd rfl z⟩)⟩⟩
          · rw [if_pos (by omega)] at qq
            exact ih (i + 1) _ τ1 _ _ (by omega) hr3 hs3 (by omega) qq
          · rw [if_neg (by omega)] at qq
            unfold pSk at qq
            refine t_eats (by omega) hn hT hs3 (by decide) (fun e2 jl2 τ2 hr2 hs4 => ⟨fun z => absurd z (by decide), fun _ => ?_⟩) (fun n2 => ⟨fun _ => ?_, fun z => absurd rfl z⟩)
            · rw [if_pos (by omega)] at qq
              refine t_takesN (by omega) hn hT hs4 (fun m1 m2 m3 jl3 τ3 hr4 hs5 => ?_) (fun f x τ3 hf hq hr4 hfl h7 => dead99 _ _ _ _ _ h7 (qq τ3 ?_))
              · rw [numP_y m1 m2 m3] at qq
                exact live99 _ _ (i + 1 + 1 + 1) τ3 _ _ ((hr3.tr hr2).tr hr4) hs5 (by omega) qq
              · rw [hq]; exact RLO.flt ((hr3.tr hr2).tr hr4).l hf (hfl T)
            · rw [if_neg (by omega)] at qq
              exact live99 _ _ (i + 1) τ1 _ _ hr3 hs3 (by omega) qq
        · rw [hq]; exact RLO.flt (hr.tr hr1).l hf (hfl T)
    refine t_nx (by omega) hn hT hs hj (fun τ1 hr1 hs1 => b_Mod_readHand_33 (by omega) ⟨fun z => absurd hs1.2.2.2.2.1 z, fun _ => ⟨fun _ => loop 1000 (j + 1) 0 τ1 _ _ (by omega) hr1 hs1 (by omega) q, fun z => absurd rfl z⟩⟩)
  · have er : pHand kd vl j T = fP kd 4 j T := by unfold pHand; rw [if_pos e]
    rw [er]; exact RLO.flt hr.l (by decide) (hf T)
theorem t_readFlag {d : Nat} {σ : Mem} {K : Int → Mem → Prop} {i k : Int} {U : TB} (hd : 7 ≤ d) (hn : 0 ≤ n ∧ n ≤ 900) (hT : TokOK t n N kd st vl en) (hs : RL0 t n N kd st vl en σ i U) (hk : 0 ≤ k ∧ k < 6) (y : ∀ w v τ, FlY kd vl i w v → rrf σ τ → RL0 t n N kd st vl en τ (i + 2) U → K 1 (up τ 119 (37 + 6 * w + k) v)) (z : ∀ f i2 τ, f ≠ 0 → (∀ F U, pFl kd vl (F + 1) i U = fP kd f i2 U) → rrf σ τ → (∀ U : TB, FR st τ (fP kd f i2 U)) → τ 115 11 ≠ 0 → K 0 τ) (o : ¬ (207 ≤ kd i ∧ kd i ≤ 211) → K 0 σ) : CI E y_Mod_readFlag d [vr 115, vi k] σ K := by
  have s6 := hs.2.2.2.2.2.1
  have rk := rk_i (kd_v hT ⟨s6.1, s6.2.1⟩).1
  have at175 : ∀ (τ : Mem) (o1 : Option AV), τ 115 11 ≠ 0 → K 0 τ → Z E y_Mod_readFlag d 175 [some (vr 115), o1] [] τ (qi K) := fun τ o1 h7 h => b_Mod_readFlag_175 (a1 := 0) ⟨fun _ => h, fun z => absurd z h7⟩
  have li175 : ∀ (τ : Mem) (o1 : Option AV), τ 115 11 = 0 → K 1 τ → Z E y_Mod_readFlag d 175 [some (vr 115), o1] [] τ (qi K) := fun τ o1 h7 h => b_Mod_readFlag_175 (a1 := 0) ⟨fun z => absurd h7 z, fun _ => h⟩
  have num : ∀ (w b lo hi : Int) (τ1 : Mem), (2 ≤ w ∧ w ≤ 5) → kd i = 205 + w → b = 37 + 6 * w → lo = (if kd i = 207 then 1 else 0) → hi = (if kd i ≤ 208 then 99 else 9) → rrf σ τ1 → RL0 t n N kd st vl en τ1 (i + 1) U → CI E y_Mod_takesN (d - 1) [vr 115, vi lo, vi hi] τ1 (fun x τ => (0 ≤ w32 (b + k) ∧ w32 (b + k) < 1036) ∧ Z E y_Mod_readFlag d 175 [some (vr 115), some (vi k)] [] (up τ 119 (w32 (b + k)) x) (qi K)) := by
    intro w b lo hi τ1 hw hkd hb hlo hhi hr1 hs1
    rw [wid (x := b + k) (by omega) (by omega), hb]
    refine t_takesN (by omega) hn hT hs1 (fun n1 n2 n3 jl τ2 hr2 hs2 => ⟨⟨by omega, by omega⟩, li175 _ _ (by rw [up_nc (by decide)]; exact hs2.2.2.2.2.1) (y w (vl (i + 1)) τ2 (Or.inl ⟨by omega, by omega, by omega, n1, rfl, by rw [← hlo]; exact n2, by rw [← hhi]; exact n3⟩) (hr1.tr hr2) (by rw [show i + 2 = i + 1 + 1 by omega]; exact hs2))⟩) (fun f x τ2 hf hq hr2 hfl h7 => ⟨⟨by omega, by omega⟩, at175 _ _ (by rw [up_nc (by decide)]; exact h7) (z f (i + 1) _ hf (fun F U => ?_) (hr1.tr hr2).u119 (fun U => (hfl U).u) (by rw [up_nc (by decide)]; exact h7))⟩)
    have e : pFl kd vl (F + 1) i U = numP kd vl (if kd i = 207 then 1 else 0) (if kd i ≤ 208 then 99 else 9) (i + 1) U (fun v i2 => pFl kd vl F i2 (upT U (37 + 6 * (kd i - 205) + U 4) v)) := if_pos (by omega)
    rw [e, ← hlo, ← hhi]; exact hq U _
  refine c_Mod_readFlag (b_Mod_readFlag_0 (by omega) ?_)
  refine t_eats (by omega) hn hT hs (by decide) (fun e jl τ1 hr1 hs1 => ⟨fun z => absurd z (by decide), fun _ => num 2 49 1 99 τ1 (by omega) (by omega) (by omega) (by rw [if_pos (by omega)]) (by rw [if_pos (by omega)]) hr1 hs1⟩) (fun n6 => ⟨fun _ => ?_, fun z => absurd rfl z⟩)
  refine t_eats (by omega) hn hT hs (by decide) (fun e jl τ1 hr1 hs1 => ⟨fun z => absurd z (by decide), fun _ => num 3 55 0 99 τ1 (by omega) (by omega) (by omega) (by rw [if_neg (by omega)]) (by rw [if_pos (by omega)]) hr1 hs1⟩) (fun n7 => ⟨fun _ => ?_, fun z => absurd rfl z⟩)
  refine t_eats (by omega) hn hT hs (by decide) (fun e jl τ1 hr1 hs1 => ⟨fun z => absurd z (by decide), fun _ => num 4 61 0 9 τ1 (by omega) (by omega) (by omega) (by rw [if_neg (by omega)]) (by rw [if_neg (by omega)]) hr1 hs1⟩) (fun n8 => ⟨fun _ => ?_, fun z => absurd rfl z⟩)
  refine t_eats (by omega) hn hT hs (by decide) (fun e jl τ1 hr1 hs1 => ⟨fun z => absurd z (by decide), fun _ => num 5 67 0 9 τ1 (by omega) (by omega) (by omega) (by rw [if_neg (by omega)]) (by rw [if_neg (by omega)]) hr1 hs1⟩) (fun n9 => ⟨fun _ => ?_, fun z => absurd rfl z⟩)
  refine t_eats (by omega) hn hT hs (by decide) (fun e jl τ1 hr1 hs1 => ⟨fun z => absurd z (by decide), fun _ => ?_⟩) (fun n10 => ⟨fun _ => o (by omega), fun z => absurd rfl z⟩)
  have e211 : kd i = 211 := by omega
  have t6 := hs1.2.2.2.2.2.1
  have rk2 := rk_i (kd_v hT ⟨t6.1, t6.2.1⟩).1
  rw [wid (x := 73 + k) (by omega) (by omega)]
  have yes : ∀ (v : Int) (τ2 : Mem), (kd (i + 1) = 212 ∧ v = 1 ∨ kd (i + 1) = 213 ∧ v = 2) → rrf τ1 τ2 → RL0 t n N kd st vl en τ2 (i + 1 + 1) U → (0 ≤ 73 + k ∧ 73 + k < 1036) ∧ Z E y_Mod_readFlag d 175 [some (vr 115), some (vi k)] [] (up τ2 119 (73 + k) v) (qi K) := by
    intro v τ2 hv hr2 hs2
    refine ⟨⟨by omega, by omega⟩, li175 _ _ (by rw [up_nc (by decide)]; exact hs2.2.2.2.2.1) ?_⟩
    have := y 6 v τ2 (Or.inr ⟨e211, rfl, hv⟩) (hr1.tr hr2) (by rw [show i + 2 = i + 1 + 1 by omega]; exact hs2)
    rwa [show 37 + 6 * 6 + k = 73 + k by omega] at this
  refine t_eats (by omega) hn hT hs1 (by decide) (fun e2 jl2 τ2 hr2 hs2 => ⟨fun z => absurd z (by decide), fun _ => yes 1 τ2 (Or.inl ⟨by omega, rfl⟩) hr2 hs2⟩) (fun n11 => ⟨fun _ => ?_, fun z => absurd rfl z⟩)
  refine t_eats (by omega) hn hT hs1 (by decide) (fun e2 jl2 τ2 hr2 hs2 => ⟨fun z => absurd z (by decide), fun _ => yes 2 τ2 (Or.inr ⟨by omega, rfl⟩) hr2 hs2⟩) (fun n12 => ⟨fun _ => ?_, fun z => absurd rfl z⟩)
  refine t_failsF hT hs1 (by decide) (fun τ2 hr2 hf h7 => at175 _ _ h7 (z 2 (i + 1) τ2 (by decide) (fun F U => ?_) (hr1.tr hr2) hf h7))
  show (if 207 ≤ kd i ∧ kd i ≤ 210 then _ else if kd i = 211 then _ else _) = _
  rw [if_neg (by omega), if_pos e211, if_neg (by omega), if_neg (by omega)]
theorem t_readLetter {d : Nat} {σ : Mem} {K : Mem → Prop} {j : Int} {T : TB} (hd : 8 ≤ d) (hn : 0 ≤ n ∧ n ≤ 900) (hT : TokOK t n N kd st vl en) (hs : RL0 t n N kd st vl en σ j T) (hj : j < N) (hP : PK T) (q : ∀ τ, RLO t n N kd st vl en σ τ j (pLetter kd vl j T) → K τ) : CV E y_Mod_readLetter d [vr 115] σ K := by
  have p4 := hP.2.2.2.2
  have p3 := hP.2.2.2.1
  have h9 := hs.2.2.2.1
  have hN9 := hs.2.2.2.2.2.1
  refine c_Mod_readLetter (b_Mod_readLetter_0 (by omega) ?_)
  rw [h9]
  refine ⟨fun ne => ?_, fun e => t_failsF hT hs (by decide) (fun τ hr hf h7 => b_Mod_readLetter_18 (by omega) ⟨fun z => absurd z h7, fun _ => q τ ?_⟩)⟩
  · have k4 : 0 ≤ T 4 ∧ T 4 < 6 := ⟨p4.1, by omega⟩
    have er : pLetter kd vl j T = numP kd vl 0 (T 3 - 1) (j + 1) T (fun v i => if kd i = 206 then numP kd vl 0 3 (i + 1) T (fun w i2 => pFl kd vl 1000 i2 (ltP T v w)) else fP kd 2 i T) := by unfold pLetter; rw [if_neg ne]
    rw [er] at q
    have dead : ∀ (τ : Mem), τ 115 11 ≠ 0 → (∀ a b c v1 v2 v3, K (up (up (up τ 119 a v1) 119 b v2) 119 c v3)) → Z E y_Mod_readLetter d 65 [some (vr 115), some (vi (T 4))] [] τ (qv K) := by
      intro τ h7 hk
      refine b_Mod_readLetter_65 (by omega) (t_takesND (by omega) h7 (fun x => ?_))
      rw [wid (x := 43 + T 4) (by omega) (by omega), wid (x := 49 + T 4) (by omega) (by omega), wid (x := 55 + T 4) (by omega) (by omega)]
      have u7 : ∀ a b c v1 v2 v3, up (up (up τ 119 a v1) 119 b v2) 119 c v3 115 11 ≠ 0 := fun a b c v1 v2 v3 => by rw [up_nc (by decide), up_nc (by decide), up_nc (by decide)]; exact h7
      exact ⟨⟨by omega, by omega⟩, ⟨by omega, by omega⟩, ⟨by omega, by omega⟩, b_Mod_readLetter_100 (by omega) ⟨fun _ => ⟨fun _ => hk _ _ _ _ _ _, fun z => absurd z (u7 _ _ _ _ _ _)⟩, fun z => absurd z (u7 _ _ _ _ _ _)⟩⟩
    have loop : ∀ (F : Nat) (i : Int) (U : TB) (τ : Mem), N < i + F → rlf σ τ → RL0 t n N kd st vl en τ i U → U 4 = T 4 → j < i → (∀ τ2, RLO t n N kd st vl en σ τ2 j (pFl kd vl F i U) → K τ2) → Z E y_Mod_readLetter d 100 [some (vr 115), some (vi (T 4))] [] τ (qv K) := by
      intro F
      induction F with
      | zero => intro i U τ hi hr hs2; have := hs2.2.2.2.2.2.1; intros; omega
      | succ F ih =>
        intro i U τ hi hr hs2 u4 hji qq
        refine b_Mod_readLetter_100 (by omega) ⟨fun z => absurd hs2.2.2.2.2.1 z, fun _ => t_readFlag (by omega) hn hT hs2 k4 (fun w v τ1 hy hr1 hs3 => ⟨fun z => absurd z (by decide), fun _ => ?_⟩) (fun f i2 τ1 hf hp hr1 hfl h7 => ⟨fun _ => ⟨fun _ => qq τ1 ?_, fun z => absurd z h7⟩, fun z => absurd rfl z⟩) (fun no => ⟨fun _ => ⟨fun z => absurd hs2.2.2.2.2.1 z, fun _ => ?_⟩, fun z => absurd rfl z⟩)⟩
        · rw [hy.p F U, u4] at qq
          have hb := hy.b.1
          exact ih (i + 2) _ _ (by omega) (hr.tr hr1.l).u9 (hs3.up (by omega)) (by rw [upT_n (by omega)]; exact u4) (by omega) qq
        · rw [hp F U]; exact RLO.flt (hr.tr hr1.l) hf (hfl U)
        · have e : pFl kd vl (F + 1) i U = (0, i, upT U 4 (U 4 + 1)) := by
            show (if 207 ≤ kd i ∧ kd i ≤ 210 then _ else if kd i = 211 then _ else _) = _
            rw [if_neg (by omega), if_neg (by omega)]
          rw [e] at qq
          rw [hs2.2.2.2.1, u4, wid (x := T 4 + 1) (by omega) (by omega)]
          rw [u4] at qq
          exact qq _ ⟨hr.u9, fun _ => ⟨hs2.up (by decide), hji⟩, fun z => absurd rfl z⟩
    refine b_Mod_readLetter_18 (by omega) ⟨fun _ => t_nx (by omega) hn hT hs hj (fun τ1 hr1 hs1 => ?_), fun z => absurd hs.2.2.2.2.1 z⟩
    rw [hs1.2.2.2.1, wid (x := T 3 - 1) (by omega) (by omega), wid (x := 37 + T 4) (by omega) (by omega)]
    refine t_takesN (by omega) hn hT hs1 (fun n1 n2 n3 jl τ2 hr2 hs2 => ⟨⟨by omega, by omega⟩, ?_⟩) (fun f x τ2 hf hq hr2 hfl h7 => ⟨⟨by omega, by omega⟩, t_eatsD (by omega) (by rw [up_nc (by decide)]; exact h7) ⟨fun z => absurd rfl z, fun _ => t_failsD (by rw [up_nc (by decide)]; exact h7) (dead _ (by rw [up_nc (by decide)]; exact h7) (fun a b c v1 v2 v3 => q _ ?_))⟩⟩)
    · have c : numP kd vl 0 (T 3 - 1) (j + 1) T (fun v i => if kd i = 206 then numP kd vl 0 3 (i + 1) T (fun w i2 => pFl kd vl 1000 i2 (ltP T v w)) else fP kd 2 i T) = if kd (j + 1 + 1) = 206 then numP kd vl 0 3 (j + 1 + 1 + 1) T (fun w i2 => pFl kd vl 1000 i2 (ltP T (vl (j + 1)) w)) else fP kd 2 (j + 1 + 1) T := numP_y n1 n2 n3
      rw [c] at q
      have hs3 := hs2.up (k := 37 + T 4) (v := vl (j + 1)) (by omega)
      have t6 := hs3.2.2.2.2.2.1
      have rk := rk_i (kd_v hT ⟨t6.1, t6.2.1⟩).1
      have hr3 : rlf σ (up τ2 119 (37 + T 4) (vl (j + 1))) := (hr1.l.tr hr2.l).u9
      generalize up τ2 119 (37 + T 4) (vl (j + 1)) = υ at hs3 hr3 ⊢
      refine t_eats (by omega) hn hT hs3 (by decide) (fun e jl2 τ3 hr4 hs4 => ⟨fun _ => ?_, fun z => absurd z (by decide)⟩) (fun n5 => ⟨fun z => absurd rfl z, fun _ => t_failsF hT hs3 (by decide) (fun τ3 hr4 hf h7 => dead τ3 h7 (fun a b c v1 v2 v3 => q _ ?_))⟩)
      · rw [if_pos (by omega)] at q
        refine b_Mod_readLetter_65 (by omega) (t_takesN (by omega) hn hT hs4 (fun m1 m2 m3 jl3 τ4 hr5 hs5 => ?_) (fun f x τ4 hf hq hr5 hfl h7 => ?_))
        · have c2 : numP kd vl 0 3 (j + 1 + 1 + 1) T (fun w i2 => pFl kd vl 1000 i2 (ltP T (vl (j + 1)) w)) = pFl kd vl 1000 (j + 1 + 1 + 1 + 1) (ltP T (vl (j + 1)) (vl (j + 1 + 1 + 1))) := numP_y m1 m2 m3
          rw [c2] at q
          rw [wid (x := 43 + T 4) (by omega) (by omega), wid (x := 49 + T 4) (by omega) (by omega), wid (x := 55 + T 4) (by omega) (by omega)]
          refine ⟨⟨by omega, by omega⟩, ⟨by omega, by omega⟩, ⟨by omega, by omega⟩, loop 1000 (j + 1 + 1 + 1 + 1) _ _ (by omega) ((hr3.tr hr4.l).tr hr5.l).u9.u9.u9 (((hs5.up (by omega)).up (by omega)).up (by omega)) ?_ (by omega) q⟩
          rw [upT_n (by omega), upT_n (by omega), upT_n (by omega), upT_n (by omega)]
        · rw [wid (x := 43 + T 4) (by omega) (by omega), wid (x := 49 + T 4) (by omega) (by omega), wid (x := 55 + T 4) (by omega) (by omega)]
          have u7 : ∀ a b c v1 v2 v3, up (up (up τ4 119 a v1) 119 b v2) 119 c v3 115 11 ≠ 0 := fun a b c v1 v2 v3 => by rw [up_nc (by decide), up_nc (by decide), up_nc (by decide)]; exact h7
          refine ⟨⟨by omega, by omega⟩, ⟨by omega, by omega⟩, ⟨by omega, by omega⟩, b_Mod_readLetter_100 (by omega) ⟨fun _ => ⟨fun _ => q _ ?_, fun z => absurd z (u7 _ _ _ _ _ _)⟩, fun z => absurd z (u7 _ _ _ _ _ _)⟩⟩
          rw [hq]; exact RLO.flt ((hr3.tr hr4.l).tr hr5.l).u9.u9.u9 hf (hfl T).u.u.u
      · rw [if_neg (by omega)]
        exact RLO.flt (hr3.tr hr4.l).u9.u9.u9 (by decide) (hf T).u.u.u
    · rw [hq]; exact RLO.flt (hr1.l.tr hr2.l).u9.u9.u9.u9 hf (hfl T).u.u.u.u
  · have er : pLetter kd vl j T = fP kd 4 j T := by unfold pLetter; rw [if_pos e]
    rw [er]; exact RLO.flt hr.l (by decide) (hf T)
theorem rl_u15 {σ : Mem} {j v : Int} {T : TB} (h : RL0 t n N kd st vl en σ j T) : RL0 t n N kd st vl en (up σ 115 15 v) j T := by
  obtain ⟨s1, s2, s3, s4, s5, s6, s7⟩ := h
  exact ⟨by rw [up_cell (by decide)]; exact s1, by rw [up_nk (by decide)]; exact s2, ⟨by rw [up_nk (by decide)]; exact s3.1, by rw [up_nk (by decide)]; exact s3.2.1, by rw [up_nk (by decide)]; exact s3.2.2.1, fun z => by rw [up_nk (by decide)]; exact s3.2.2.2 z⟩, by rw [up_cell (by decide)]; exact s4, by rw [up_nk (by decide)]; exact s5, s6, s7⟩
theorem t_readLaw {d : Nat} {σ : Mem} {K : Mem → Prop} {j l : Int} {T : TB} (hd : 30 ≤ d) (hl : 0 ≤ l ∧ l < 4) (hn : 0 ≤ n ∧ n ≤ 900) (hT : TokOK t n N kd st vl en) (hs : RL0 t n N kd st vl en σ j T) (hj : j < N) (q : ∀ τ, RLO t n N kd st vl en σ τ j (pLaw kd vl l j T) → K τ) : CV E y_Mod_readLaw d [vr 115, vi l] σ K := by
  have hA : RAt E t n N kd st vl en l 6 := t_readAtom hn hT 6 (Nat.le_refl _)
  refine c_Mod_readLaw (b_Mod_readLaw_0 (by omega) (t_nx (by omega) hn hT hs hj (fun τ1 hr1 hs1 => ?_)))
  have t6 := hs1.2.2.2.2.2.1
  have rk := rk_i (kd_v hT ⟨t6.1, t6.2.1⟩).1
  refine t_eats (by omega) hn hT hs1 (by decide) (fun e jl τ2 hr2 hs2 => ⟨fun _ => b_Mod_readLaw_18 (by omega) ?_, fun z => absurd z (by decide)⟩) (fun n31 => ⟨fun z => absurd rfl z, fun _ => t_failsF hT hs1 (by decide) (fun τ2 hr2 hf h7 => b_Mod_readLaw_18 (by omega) ?_)⟩)
  · have er : pLaw kd vl l j T = seqR (pSu kd (pAt kd vl l 6) (j + 2) T) (fun i U => (0, i, lwP U l (T 135))) := by unfold pLaw; rw [if_pos (by omega)]
    rw [er, show j + 2 = j + 1 + 1 by omega] at q
    have z6 : (0 : Int) = 6 - ((6 : Nat) : Int) := by decide
    have main := fun (K2 : Mem → Prop) (h : ∀ τ, RE kd st vl en N (up τ2 115 15 l) τ (j + 1 + 1) T (pSu kd (pAt kd vl l 6) (j + 1 + 1) T) → K2 τ) => t_readSum (d := d - 1) hn hA hT (by omega) (rl_u15 (v := l) hs2) (up_same _ _ _ _) h
    rw [← z6] at main
    have g9 := hs2.2.2.2.1
    have g7 := hs2.2.2.2.2.2.2
    rw [g9]
    refine main _ (fun τ3 hE => ?_)
    have hr3 : rlf σ τ3 := ((hr1.l.tr hr2.l).tr ⟨Fr.rf.up (by decide), keep.rf.up (by decide)⟩).tr hE.1.l
    by_cases hz : (pSu kd (pAt kd vl l 6) (j + 1 + 1) T).1 = 0
    · have hs3 := hE.nx (rl_u15 (v := l) hs2) hz
      have b4 := (hE.2.1 hz).2.2.2.1
      rw [seqR_0 hz] at q
      generalize pSu kd (pAt kd vl l 6) (j + 1 + 1) T = r at *
      have v6 := hs3.2.2.2.2.2.1
      have v7 := hs3.2.2.2.2.2.2
      rw [wid (x := 7 + l) (by omega) (by omega), wid (x := 11 + l) (by omega) (by omega), wid (x := 15 + l) (by omega) (by omega), up_nk (by omega), up_nk (by omega), hs3.2.2.2.1, wid (x := r.2.2 135 - T 135) (by omega) (by omega)]
      refine ⟨fun _ => ⟨⟨by omega, by omega⟩, ⟨by omega, by omega⟩, ⟨by omega, by omega⟩, q _ ⟨hr3.u9.u9.u9, fun _ => ⟨((hs3.up (by omega)).up (by omega)).up (by omega), by show j < r.2.1; omega⟩, fun z => absurd rfl z⟩⟩, fun z => absurd hs3.2.2.2.2.1 z⟩
    · have hf := hE.2.2 hz
      rw [seqR_n hz] at q
      exact ⟨fun z => absurd (hf.1.symm.trans z) hz, fun _ => q τ3 ⟨hr3, fun z => absurd z hz, fun _ => hf⟩⟩
  · have er : pLaw kd vl l j T = fP kd 2 (j + 1) T := by unfold pLaw; rw [if_neg (by omega)]
    rw [er] at q
    have h7b : up τ2 115 15 l 115 11 ≠ 0 := by rw [up_nk (by decide)]; exact h7
    refine t_readSumD (by omega) h7b ⟨fun z => absurd z h7b, fun _ => q _ ?_⟩
    exact RLO.flt ((hr1.l.tr hr2.l).tr ⟨Fr.rf.up (by decide), keep.rf.up (by decide)⟩) (by decide) ⟨by rw [up_nk (by decide)]; exact (hf T).1, by rw [up_nk (by decide)]; exact (hf T).2⟩
theorem t_readName {d : Nat} {σ : Mem} {K : Mem → Prop} {j : Int} {T : TB} (hd : 7 ≤ d) (hn : 0 ≤ n ∧ n ≤ 900) (hT : TokOK t n N kd st vl en) (hs : RL0 t n N kd st vl en σ j T) (hj : j < N) (q : ∀ τ, RLO t n N kd st vl en σ τ j (pName kd vl st t j T) → K τ) : CV E y_Mod_readName d [vr 115] σ K := by
  refine c_Mod_readName (b_Mod_readName_0 (by omega) (t_nx (by omega) hn hT hs hj (fun τ1 hr1 hs1 => ?_)))
  obtain ⟨u1, u2, u3, u4, u5, u6, u7⟩ := id hs1
  rw [u3.1]
  have bad : ¬ (200 ≤ kd (j + 1) ∧ vl (j + 1) ≤ 8) → CV E y_Mod_fails (d - 1) [vr 115, vi 2] τ1 (fun τ4 => (τ4 115 11 = 0 → Z E y_Mod_readName d 50 [some (vr 115), some (vi (τ4 115 6))] [] τ4 (qv K)) ∧ (τ4 115 11 ≠ 0 → K τ4)) := by
    intro hno
    have er : pName kd vl st t j T = fP kd 2 (j + 1) T := by unfold pName; rw [if_neg hno]
    rw [er] at q
    exact t_failsF hT hs1 (by decide) (fun τ hr hf h7 => ⟨fun z => absurd z h7, fun _ => q τ (RLO.flt (hr1.l.tr hr.l) (by decide) (hf T))⟩)
  by_cases jN : j + 1 < N
  · have tk := (hT.2.1 (j + 1) (by omega) jN).1
    have w := tk.word
    have te := tk.2.2.1.1
    have s0 := tk.1
    refine t_see u1 u2 hn.2 s0 (fun _ => t_isSm (fun sm => ⟨fun z => absurd z (by decide), fun _ => ?_⟩) (fun nsm => ⟨fun _ => bad (fun z => nsm (w.1.mp z.1)), fun z => absurd rfl z⟩)) (fun z => absurd z (by omega))
    have k200 := w.1.mpr sm
    obtain ⟨vE, all⟩ := w.2 k200
    rw [u3.1, u3.2.1, wid (x := en (j + 1) - st (j + 1)) (by omega) (by omega)]
    refine ⟨fun le => ⟨fun _ => ?_, fun z => absurd u5 z⟩, fun gt => bad (fun z => by omega)⟩
    have er : pName kd vl st t j T = (0, j + 2, upT (nmP t (st (j + 1)) T (vl (j + 1)).toNat) 6 (vl (j + 1))) := by unfold pName; rw [if_pos ⟨k200, by omega⟩]
    rw [er] at q
    have loop : ∀ (c m : Nat) (τ : Mem), (m : Int) + c = vl (j + 1) → rlf σ τ → RL0 t n N kd st vl en τ (j + 1) (nmP t (st (j + 1)) T m) → Z E y_Mod_readName d 50 [some (vr 115), some (vi (st (j + 1) + m))] [] τ (qv K) := by
      intro c
      induction c with
      | zero =>
        intro m τ hm hr hs2
        obtain ⟨v1, v2, v3, v4, v5, v6, v7⟩ := id hs2
        refine b_Mod_readName_50 (by omega) ?_
        rw [v3.2.1, v3.1, wid (x := en (j + 1) - st (j + 1)) (by omega) (by omega), ← vE]
        refine ⟨fun _ => ?_, fun z => absurd z (by omega)⟩
        refine t_nx (by omega) hn hT (hs2.up (k := 6) (v := vl (j + 1)) (by decide)) jN (fun τ3 hr3 hs3 => q τ3 ⟨hr.u9.tr hr3.l, fun _ => ⟨?_, by show j < j + 2; omega⟩, fun z => absurd rfl z⟩)
        rw [show (vl (j + 1)).toNat = m by omega]
        show RL0 t n N kd st vl en τ3 (j + 2) _
        rw [show j + 2 = j + 1 + 1 by omega]; exact hs3
      | succ c ih =>
        intro m τ hm hr hs2
        obtain ⟨v1, v2, v3, v4, v5, v6, v7⟩ := id hs2
        have al := all (st (j + 1) + m) (by omega) (by omega)
        unfold sml at al
        refine b_Mod_readName_50 (by omega) ?_
        rw [v3.2.1, v3.1, v1, wid (x := 19 + (st (j + 1) + (m : Int))) (by omega) (by omega), wid (x := 19 + (st (j + 1) + (m : Int)) - st (j + 1)) (by omega) (by omega), wid (x := st (j + 1) + (m : Int) + 1) (by omega) (by omega), wid (x := t (st (j + 1) + (m : Int)) - 97) (by omega) (by omega), show 19 + (st (j + 1) + (m : Int)) - st (j + 1) = 19 + (m : Int) by omega, show st (j + 1) + (m : Int) + 1 = st (j + 1) + ((m + 1 : Nat) : Int) by omega]
        exact ⟨fun z => absurd z (by omega), fun _ => ⟨⟨by omega, by omega⟩, ⟨by omega, by omega⟩, ih (m + 1) _ (by omega) hr.u9 (hs2.up (by omega))⟩⟩
    have l0 := loop (vl (j + 1)).toNat 0 τ1 (by omega) hr1.l hs1
    rw [show st (j + 1) + ((0 : Nat) : Int) = st (j + 1) by omega] at l0
    exact l0
  · have eN : j + 1 = N := by omega
    have k0 : kd (j + 1) = 0 := by rw [eN]; exact hT.2.2.2.1
    have sN : st (j + 1) = n := by rw [eN]; exact hT.2.2.2.2.1
    refine t_see u1 u2 hn.2 (by omega) (fun z => absurd z (by omega)) (fun _ => t_isSm (fun sm => absurd sm (by unfold sml; omega)) (fun _ => ⟨fun _ => bad (by omega), fun z => absurd rfl z⟩))
theorem t_readLine {d : Nat} {σ : Mem} {K : Mem → Prop} {j : Int} {T : TB} (hd : 31 ≤ d) (hn : 0 ≤ n ∧ n ≤ 900) (hT : TokOK t n N kd st vl en) (hs : RL0 t n N kd st vl en σ j T) (hj : j < N) (hP : PK T) (q : ∀ τ, RLO t n N kd st vl en σ τ j (pLine kd vl st t j T) → K τ) : CV E y_Mod_readLine d [vr 115] σ K := by
  have s6 := hs.2.2.2.2.2.1
  have rk := rk_i (kd_v hT ⟨s6.1, s6.2.1⟩).1
  refine c_Mod_readLine (b_Mod_readLine_0 (by omega) ⟨fun _ => ?_, fun z => absurd hs.2.2.2.2.1 z⟩)
  refine t_is hs (fun e => ⟨fun z => absurd z (by decide), fun _ => ?_⟩) (fun n1 => ⟨fun _ => ?_, fun z => absurd rfl z⟩)
  · have e2 : pLine kd vl st t j T = pHand kd vl j T := by unfold pLine; rw [if_pos (by omega)]
    rw [e2] at q
    exact t_readHand (by omega) hn hT hs hj hP q
  refine t_is hs (fun e => ⟨fun z => absurd z (by decide), fun _ => ?_⟩) (fun n3 => ⟨fun _ => ?_, fun z => absurd rfl z⟩)
  · have e2 : pLine kd vl st t j T = pCourt kd vl j T := by unfold pLine; rw [if_neg (by omega), if_pos (by omega)]
    rw [e2] at q
    exact t_readCourt (by omega) hn hT hs hj hP q
  refine t_is hs (fun e => ⟨fun z => absurd z (by decide), fun _ => ?_⟩) (fun n4 => ⟨fun _ => ?_, fun z => absurd rfl z⟩)
  · have e2 : pLine kd vl st t j T = pLetter kd vl j T := by unfold pLine; rw [if_neg (by omega), if_neg (by omega), if_pos (by omega)]
    rw [e2] at q
    exact t_readLetter (by omega) hn hT hs hj hP q
  rw [hs.2.2.1.2.2.1]
  refine s_within (fun hb => ⟨fun z => absurd z (by decide), fun _ => ?_⟩) (fun nb => ⟨fun _ => ?_, fun z => absurd rfl z⟩)
  · have e2 : pLine kd vl st t j T = pLaw kd vl (kd j - 214) j T := by unfold pLine; rw [if_neg (by omega), if_neg (by omega), if_neg (by omega), if_pos (by omega)]
    rw [e2] at q
    rw [hs.2.2.1.2.2.1, wid (x := rkK (kd j) - 13) (by omega) (by omega), show rkK (kd j) - 13 = kd j - 214 by omega]
    exact t_readLaw (by omega) (by omega) hn hT hs hj q
  refine t_eats (by omega) hn hT hs (by decide) (fun e jl τ1 hr1 hs1 => ⟨fun z => absurd z (by decide), fun _ => ?_⟩) (fun n17 => ⟨fun _ => ?_, fun z => absurd rfl z⟩)
  · have e2 : pLine kd vl st t j T = numP kd vl 0 100 (j + 1) T (fun v i => (0, i, upT T 5 v)) := by unfold pLine; rw [if_neg (by omega), if_neg (by omega), if_neg (by omega), if_neg (by omega), if_pos (by omega)]; rfl
    rw [e2] at q
    refine t_takesN (by omega) hn hT hs1 (fun m1 m2 m3 jl2 τ2 hr2 hs2 => ?_) (fun f x τ2 hf hq hr2 hfl h7 => q _ ?_)
    · rw [numP_y m1 m2 m3] at q
      exact q _ ⟨(hr1.l.tr hr2.l).u9, fun _ => ⟨hs2.up (by decide), by show j < j + 1 + 1; omega⟩, fun z => absurd rfl z⟩
    · rw [hq]; exact RLO.flt (hr1.l.tr hr2.l).u9 hf (hfl T).u
  refine t_is hs (fun e => ⟨fun z => absurd z (by decide), fun _ => ?_⟩) (fun n18 => ⟨fun _ => ?_, fun z => absurd rfl z⟩)
  · have e2 : pLine kd vl st t j T = pName kd vl st t j T := by unfold pLine; rw [if_neg (by omega), if_neg (by omega), if_neg (by omega), if_neg (by omega), if_neg (by omega), if_pos (by omega)]
    rw [e2] at q
    exact t_readName (by omega) hn hT hs hj q
  · have e2 : pLine kd vl st t j T = fP kd 2 j T := by unfold pLine; rw [if_neg (by omega), if_neg (by omega), if_neg (by omega), if_neg (by omega), if_neg (by omega), if_neg (by omega)]
    rw [e2] at q
    exact t_failsF hT hs (by decide) (fun τ hr hf h7 => q τ (RLO.flt hr.l (by decide) (hf T)))
end
