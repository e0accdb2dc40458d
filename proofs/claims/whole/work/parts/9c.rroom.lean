/-! the reference's room -/
section
variable {E : EN} {t : Int → Int} {n N : Int} {kd st vl en : Int → Int}
theorem t_plain0 {d : Nat} {σ : Mem} {K : Mem → Prop} (q : ∀ τ, Fr [119] σ τ → (∀ k : Int, 0 ≤ k → k < 1036 → τ 119 k = if k = 5 then 50 else 0) → (∀ k : Int, ¬ (0 ≤ k ∧ k < 1036) → τ 119 k = σ 119 k) → K τ) : CV E y_Mod_plain0 d [vr 119] σ K := by
  have hs : sh 119 = (20, 1036) := rfl
  have hi : i32 ((1036 : Nat) : Int) := by unfold i32; decide
  refine c_Mod_plain0 (n0 := 1036) (b_Mod_plain0_0 hs hi ?_)
  have loop : ∀ (c : Nat) (k : Int) (τ : Mem), k + c = 1036 → 0 ≤ k → Fr [119] σ τ → (∀ i : Int, 0 ≤ i → i < k → τ 119 i = 0) → (∀ i : Int, ¬ (0 ≤ i ∧ i < 1036) → τ 119 i = σ 119 i) → Z E y_Mod_plain0 d 2 [some (vr 119), some (vi k)] [] τ (qv K) := by
    intro c
    induction c with
    | zero =>
      intro k τ hk k0 hF h1 h2
      refine b_Mod_plain0_2 hs hi ⟨fun _ => ⟨⟨by decide, by decide⟩, q _ (hF.up (by simp)) (fun i i0 i1 => ?_) (fun i hi => ?_)⟩, fun z => absurd z (by omega)⟩
      · by_cases e : i = 5
        · rw [e, up_same]; rfl
        · rw [up_nk e, if_neg e]; exact h1 i i0 (by omega)
      · rw [up_nk (by omega)]; exact h2 i hi
    | succ c ih =>
      intro k τ hk k0 hF h1 h2
      refine b_Mod_plain0_2 hs hi ⟨fun z => absurd z (by omega), fun _ => ⟨⟨by omega, by omega⟩, ?_⟩⟩
      rw [wid (x := k + 1) (by omega) (by omega)]
      refine ih (k + 1) _ (by omega) (by omega) (hF.up (by simp)) (fun i i0 i1 => ?_) (fun i hi => ?_)
      · by_cases e : i = k
        · rw [e, up_same]
        · rw [up_nk e]; exact h1 i i0 (by omega)
      · rw [up_nk (by omega)]; exact h2 i hi
  exact loop 1036 0 σ (by omega) (by omega) Fr.rf (fun i a b => absurd b (by omega)) (fun i _ => rfl)
theorem t_endsD {d : Nat} {σ : Mem} {K : Mem → Prop} (hd : 2 ≤ d) (h : σ 115 11 ≠ 0) (k0 : ∀ v, K (up σ 119 0 v)) : CV E y_Mod_ends d [vr 115] σ K :=
  c_Mod_ends (b_Mod_ends_0 (by omega) (t_eatsD (by omega) h ⟨fun z => absurd rfl z, fun _ => t_failsD h (k0 _)⟩))
theorem t_ends {d : Nat} {σ : Mem} {K : Mem → Prop} {j : Int} {T : TB} (hd : 7 ≤ d) (hn : 0 ≤ n ∧ n ≤ 900) (hT : TokOK t n N kd st vl en) (hs : RL0 t n N kd st vl en σ j T) (h0 : 0 ≤ T 0 ∧ T 0 ≤ 900) (k1 : kd j = 59 → j < N → ∀ τ, rlf σ τ → RL0 t n N kd st vl en τ (j + 1) (upT T 0 (T 0 + 1)) → K τ) (k0 : kd j ≠ 59 → ∀ τ, rlf σ τ → (∀ U : TB, FR st τ (fP kd 2 j U)) → τ 115 11 ≠ 0 → K τ) : CV E y_Mod_ends d [vr 115] σ K := by
  have s6 := hs.2.2.2.2.2.1
  have rk := rk_i (kd_v hT ⟨s6.1, s6.2.1⟩).1
  refine c_Mod_ends (b_Mod_ends_0 (by omega) (t_eats (by omega) hn hT hs (by decide) (fun e jl τ hr hs2 => ⟨fun _ => ?_, fun z => absurd z (by decide)⟩) (fun ne => ⟨fun z => absurd rfl z, fun _ => t_failsF hT hs (by decide) (fun τ hr hf h7 => k0 (by omega) _ hr.l.u9 (fun U => (hf U).u) (by rw [up_nc (by decide)]; exact h7))⟩)))
  rw [hs2.2.2.2.1, wid (x := T 0 + 1) (by omega) (by omega)]
  exact k1 (by omega) jl _ hr.l.u9 (hs2.up (by decide))
/-- how the reference's reading ends -/
def RRD (st : Int → Int) (σ τ : Mem) (r : Rs) : Prop := rlf σ τ ∧ (r.1 = 0 → τ 115 11 = 0 ∧ τ 119 = r.2.2) ∧ (r.1 ≠ 0 → FR st τ r)
theorem t_roomLoop {d : Nat} {σ : Mem} {K : Int → Mem → Prop} (hd : 32 ≤ d) (hn : 0 ≤ n ∧ n ≤ 900) (hT : TokOK t n N kd st vl en) : ∀ (F : Nat) (i : Int) (U : TB) (τ : Mem) (o1 o2 : Option AV), N < i + F → rlf σ τ → RL0 t n N kd st vl en τ i U → PK U → (0 ≤ U 0 ∧ U 0 ≤ i) → (∀ τ2 o1 o2, RRD st σ τ2 (pLs kd vl st t F i U) → Z E y_Mod_room d 111 [some (vr 115), o1, o2] [] τ2 (qi K)) → Z E y_Mod_room d 84 [some (vr 115), o1, o2] [] τ (qi K) := by
  intro F
  induction F with
  | zero => intro i U τ o1 o2 hi hr hs; have := hs.2.2.2.2.2.1; intros; omega
  | succ F ih =>
    intro i U τ o1 o2 hi hr hs hP h0 qq
    have s6 := hs.2.2.2.2.2.1
    have rk := rk_i (kd_v hT ⟨s6.1, s6.2.1⟩).1
    have er : pLs kd vl st t (F + 1) i U = if kd i = 0 then (0, i, U) else seqR (seqR (pLine kd vl st t i U) (pEnd kd)) (pLs kd vl st t F) := rfl
    rw [er] at qq
    have dead : ∀ (τ2 : Mem) (r : Rs), r.1 ≠ 0 → (∀ τ2 o1 o2, RRD st σ τ2 r → Z E y_Mod_room d 111 [some (vr 115), o1, o2] [] τ2 (qi K)) → rlf σ τ2 → FR st τ2 r → Z E y_Mod_room d 84 [some (vr 115), o1, o2] [] τ2 (qi K) := fun τ2 r hz h hr2 hf => b_Mod_room_84 (a1 := 0) (by omega) ⟨fun _ => h τ2 o1 o2 ⟨hr2, fun z => absurd z hz, fun _ => hf⟩, fun z => absurd (hf.1.symm.trans z) hz⟩
    refine b_Mod_room_84 (a1 := 0) (by omega) ⟨fun z => absurd hs.2.2.2.2.1 z, fun _ => ?_⟩
    rw [hs.2.2.1.2.2.1]
    refine ⟨fun e => ?_, fun ne => ?_⟩
    · rw [if_pos (by omega)] at qq
      exact qq τ o1 o2 ⟨hr, fun _ => ⟨hs.2.2.2.2.1, hs.2.2.2.1⟩, fun z => absurd rfl z⟩
    · have nz : kd i ≠ 0 := by omega
      rw [if_neg nz] at qq
      have il : i < N := kd_lt hT ⟨s6.1, s6.2.1⟩ nz
      refine t_readLine (by omega) hn hT hs il hP (fun τ1 hO => ?_)
      by_cases hz : (pLine kd vl st t i U).1 = 0
      · have pk := pLine_pk hT hP ⟨s6.1, il⟩ hz
        rw [seqR_0 hz] at qq
        obtain ⟨hs1, hi1⟩ := hO.2.1 hz
        have hr1 : rlf σ τ1 := hr.tr hO.1
        generalize pLine kd vl st t i U = r at *
        have v6 := hs1.2.2.2.2.2.1
        have z0 := pk.2
        refine t_ends (by omega) hn hT hs1 (by omega) (fun e jl τ2 hr2 hs2 => ?_) (fun ne τ2 hr2 hf h7 => dead τ2 _ ?_ qq (hr1.tr hr2) ?_)
        · rw [pEnd_y e, seqR_0 rfl] at qq
          exact ih (r.2.1 + 1) _ τ2 _ _ (by omega) (hr1.tr hr2) hs2 pk.1.e0 (by rw [upT_s]; omega) qq
        · rw [pEnd_n ne, seqR_n (fP_n (by decide))]; exact fP_n (by decide)
        · rw [pEnd_n ne, seqR_n (fP_n (by decide))]; exact hf _
      · have hf := hO.2.2 hz
        rw [seqR_n hz, seqR_n hz] at qq
        have h7 : τ1 115 11 ≠ 0 := by rw [hf.1]; exact hz
        exact t_endsD (by omega) h7 (fun v => dead _ _ hz qq (hr.tr hO.1).u9 hf.u)
theorem t_room {d : Nat} {σ : Mem} {K : Int → Mem → Prop} {T : TB} (hd : 40 ≤ d) (hn : 0 ≤ n ∧ n ≤ 900) (hT : TokOK t n N kd st vl en) (h118 : σ 118 = t) (h5 : n ≤ σ 115 5) (hT0 : tb0 T) (hTo : ∀ k : Int, ¬ (0 ≤ k ∧ k < 1036) → T k = σ 119 k) (kY : (pRoom kd vl st t T).1 = 0 → ∀ τ, Fr [115, 116, 119] σ τ → τ 115 5 = 0 → τ 115 33 = σ 115 33 → τ 115 13 = 0 → τ 115 14 = -1 → (∀ k : Int, 0 ≤ k → k < 1036 → τ 116 k = (pRoom kd vl st t T).2.2 k) → (∀ k : Int, ¬ (0 ≤ k ∧ k < 1036) → τ 116 k = σ 116 k) → K ((pRoom kd vl st t T).2.2 0) τ) (kN : (pRoom kd vl st t T).1 ≠ 0 → ∀ τ, Fr [115, 119] σ τ → τ 115 5 = 0 → τ 115 33 = σ 115 33 → τ 115 13 = (pRoom kd vl st t T).1 → τ 115 14 = st (pRoom kd vl st t T).2.1 → K (w32 (-30 - (pRoom kd vl st t T).1)) τ) : CI E y_Mod_room d [vr 115, vi n] σ K := by
  refine c_Mod_room (b_Mod_room_0 (by omega) (s_within (fun _ => ⟨fun _ => ?_, fun z => absurd z (by decide)⟩) (fun z => absurd (And.intro hn.1 h5) z)))
  have m8 : up (up (up (up (up σ 115 0 0) 115 8 n) 115 5 0) 115 7 0) 115 11 0 115 8 = n := by rw [up_nk (by decide), up_nk (by decide), up_nk (by decide), up_same]
  have m5 : up (up (up (up (up σ 115 0 0) 115 8 n) 115 5 0) 115 7 0) 115 11 0 115 5 = 0 := by rw [up_nk (by decide), up_nk (by decide), up_same]
  have m7 : up (up (up (up (up σ 115 0 0) 115 8 n) 115 5 0) 115 7 0) 115 11 0 115 7 = 0 := by rw [up_nk (by decide), up_same]
  have m11 : up (up (up (up (up σ 115 0 0) 115 8 n) 115 5 0) 115 7 0) 115 11 0 115 11 = 0 := up_same _ _ _ _
  have m33 : up (up (up (up (up σ 115 0 0) 115 8 n) 115 5 0) 115 7 0) 115 11 0 115 33 = σ 115 33 := by rw [up_nk (by decide), up_nk (by decide), up_nk (by decide), up_nk (by decide), up_nk (by decide)]
  have mF : Fr [115] σ (up (up (up (up (up σ 115 0 0) 115 8 n) 115 5 0) 115 7 0) 115 11 0) := ((((Fr.rf.up (by simp)).up (by simp)).up (by simp)).up (by simp)).up (by simp)
  generalize up (up (up (up (up σ 115 0 0) 115 8 n) 115 5 0) 115 7 0) 115 11 0 = M at m8 m5 m7 m11 m33 mF ⊢
  refine t_plain0 (fun τ2 F2 p1 p2 => ?_)
  have e119 : τ2 119 = T := by
    funext k
    by_cases hk : 0 ≤ k ∧ k < 1036
    · rw [p1 k hk.1 hk.2, hT0 k hk.1 hk.2]
    · rw [p2 k hk, hTo k hk, mF.one (by decide)]
  have g115 : τ2 115 = M 115 := F2.one (by decide)
  have z135 := hT0.z (k := 135) (by omega) (by omega)
  have z0 := hT0.z (k := 0) (by omega) (by omega)
  have p0 : pe en 0 = 0 := if_pos rfl
  have hN := hT.1
  refine t_next (by omega) hn hT (j := 0) (by rw [F2.one (by decide), mF.one (by decide)]; exact h118) (by rw [g115]; exact m8) (by omega) (by rw [g115, m7, p0]) (fun τ3 F3 K3 R3 => ?_)
  have hr3 : rlf M τ3 := ⟨(F2.wk (by decide)).tr (F3.wk (by decide)), fun k hk => by rw [K3 k (by simp [nxK, rlK] at hk ⊢; omega), g115]⟩
  have hs3 : RL0 t n N kd st vl en τ3 0 T := ⟨by rw [F3.one (by decide), F2.one (by decide), mF.one (by decide)]; exact h118, by rw [K3 8 (by decide), g115]; exact m8, R3, by rw [F3.one (by decide)]; exact e119, by rw [K3 11 (by decide), g115]; exact m11, ⟨by omega, by omega, by omega⟩, ⟨by omega, by omega⟩⟩
  have rk := rk_i (kd_v hT (j := 0) ⟨by omega, by omega⟩).1
  -- the end
  have at111 : ∀ τ (o1 o2 : Option AV) r, pRoom kd vl st t T = r → RRD st M τ r → Z E y_Mod_room d 111 [some (vr 115), o1, o2] [] τ (qi K) := by
    intro τ o1 o2 r er hD
    rw [er] at kY kN
    obtain ⟨hr, hy, hno⟩ := hD
    have c5 : τ 115 5 = 0 := by rw [hr.2 5 (by decide)]; exact m5
    have c33 : τ 115 33 = σ 115 33 := by rw [hr.2 33 (by decide)]; exact m33
    have hF : Fr [115, 119] σ τ := (mF.wk (by decide)).tr hr.1
    by_cases hz : r.1 = 0
    · obtain ⟨h11, h119⟩ := hy hz
      refine b_Mod_room_111 (a1 := 0) ⟨fun z => absurd h11 z, fun _ => ⟨fun _ => ?_, fun z => absurd h11 z⟩⟩
      rw [h11]
      have loop : ∀ (c : Nat) (k : Int) (υ : Mem), k + c = 1036 → 0 ≤ k → Fr [116] (up (up τ 115 13 0) 115 14 (-1)) υ → (∀ i : Int, 0 ≤ i → i < k → υ 116 i = r.2.2 i) → (∀ i : Int, ¬ (0 ≤ i ∧ i < k) → υ 116 i = σ 116 i) → Z E y_Mod_room d 155 [some (vr 115), none, some (vi k)] [] υ (qi K) := by
        intro c
        induction c with
        | zero =>
          intro k υ hk k0 hFu h1 h2
          have ek : k = 1036 := by omega
          subst ek
          have g : υ 115 = up (up τ 115 13 0) 115 14 (-1) 115 := hFu.one (by decide)
          refine b_Mod_room_155 (a1 := 0) (o1 := none) ⟨fun _ => ?_, fun z => absurd z (by omega)⟩
          rw [h1 0 (by omega) (by omega)]
          refine kY hz υ (((hF.wk (by decide)).up (by decide)).up (by decide) |>.tr (hFu.wk (by decide))) ?_ ?_ ?_ ?_ h1 h2
          · rw [g, up_nk (by decide), up_nk (by decide)]; exact c5
          · rw [g, up_nk (by decide), up_nk (by decide)]; exact c33
          · rw [g, up_nk (by decide), up_same]
          · rw [g, up_same]
        | succ c ihc =>
          intro k υ hk k0 hFu h1 h2
          have g9 : υ 119 = r.2.2 := by rw [hFu.one (by decide), up_cell (by decide), up_cell (by decide)]; exact h119
          refine b_Mod_room_155 (a1 := 0) (o1 := none) ⟨fun z => absurd z (by omega), fun _ => ⟨⟨by omega, by omega⟩, ⟨by omega, by omega⟩, ?_⟩⟩
          rw [g9, wid (x := k + 1) (by omega) (by omega)]
          refine ihc (k + 1) _ (by omega) (by omega) (hFu.up (by simp)) (fun i i0 i1 => ?_) (fun i hi => ?_)
          · by_cases e : i = k
            · rw [e, up_same]
            · rw [up_nk e]; exact h1 i i0 (by omega)
          · rw [up_nk (by omega)]; exact h2 i (by omega)
      exact loop 1036 0 _ (by omega) (by omega) Fr.rf (fun i a b => absurd b (by omega)) (fun i _ => by rw [up_nc (by decide), up_nc (by decide), hF 116 (by decide)])
    · have hf := hno hz
      have h11 : τ 115 11 ≠ 0 := by rw [hf.1]; exact hz
      refine b_Mod_room_111 (a1 := 0) ⟨fun _ => ⟨fun z => absurd z h11, fun _ => ?_⟩, fun z => absurd z h11⟩
      rw [hf.1, hf.2]
      refine kN hz _ ((hF.up (by decide)).up (by decide)) ?_ ?_ ?_ (up_same _ _ _ _)
      · rw [up_nk (by decide), up_nk (by decide)]; exact c5
      · rw [up_nk (by decide), up_nk (by decide)]; exact c33
      · rw [up_nk (by decide), up_same]
  have dead84 : ∀ τ (o1 o2 : Option AV) r, pRoom kd vl st t T = r → r.1 ≠ 0 → rlf M τ → FR st τ r → Z E y_Mod_room d 84 [some (vr 115), o1, o2] [] τ (qi K) := fun τ o1 o2 r er hz hr hf => b_Mod_room_84 (a1 := 0) (by omega) ⟨fun _ => at111 τ o1 o2 r er ⟨hr, fun z => absurd z hz, fun _ => hf⟩, fun z => absurd (hf.1.symm.trans z) hz⟩
  refine t_eats (by omega) hn hT hs3 (by decide) (fun e jl τ4 hr4 hs4 => ⟨fun _ => ?_, fun z => absurd z (by decide)⟩) (fun n0 => ⟨fun z => absurd rfl z, fun _ => t_failsF hT hs3 (by decide) (fun τ4 hr4 hf h7 => ?_)⟩)
  · have er : pRoom kd vl st t T = seqR (numP kd vl 1 300 1 T (fun v i => (0, i, upT T 1 v))) (fun i U => seqR (pEnd kd i U) (pLs kd vl st t 1000)) := by unfold pRoom; rw [if_pos (by omega)]
    refine t_takesN (by omega) hn hT hs4 (fun n1 n2 n3 jl2 τ5 hr5 hs5 => ?_) (fun f x τ5 hf hq hr5 hfl h7 => ?_)
    · have e1 : numP kd vl 1 300 1 T (fun v i => (0, i, upT T 1 v)) = (0, 0 + 1 + 1, upT T 1 (vl (0 + 1))) := numP_y (j := 0 + 1) n1 n2 n3
      rw [e1, seqR_0 rfl] at er
      have hs6 := hs5.up (k := 1) (v := vl (0 + 1)) (by decide)
      have pk := hT0.pk.e1 (v := vl (0 + 1))
      have u0 : upT T 1 (vl (0 + 1)) 0 = 0 := by rw [upT_n (by decide)]; exact z0
      have hr6 : rlf M (up τ5 119 1 (vl (0 + 1))) := ((hr3.tr hr4.l).tr hr5.l).u9
      generalize up τ5 119 1 (vl (0 + 1)) = υ at hs6 hr6 ⊢
      generalize upT T 1 (vl (0 + 1)) = U at hs6 pk u0 er
      refine t_ends (by omega) hn hT hs6 (by omega) (fun e59 jl3 τ6 hr7 hs7 => ?_) (fun ne τ6 hr7 hf h7 => ?_)
      · have er2 : pRoom kd vl st t T = pLs kd vl st t 1000 (0 + 1 + 1 + 1) (upT U 0 (U 0 + 1)) := by rw [er]; show seqR (pEnd kd (0 + 1 + 1) U) (pLs kd vl st t 1000) = _; rw [pEnd_y e59, seqR_0 rfl]
        exact t_roomLoop (by omega) hn hT 1000 (0 + 1 + 1 + 1) _ τ6 _ _ (by omega) (hr6.tr hr7) hs7 pk.e0 (by rw [upT_s]; omega) (fun τ2 o1 o2 h => at111 τ2 o1 o2 _ er2 h)
      · have er2 : pRoom kd vl st t T = fP kd 2 (0 + 1 + 1) U := by rw [er]; show seqR (pEnd kd (0 + 1 + 1) U) (pLs kd vl st t 1000) = _; rw [pEnd_n ne, seqR_n (fP_n (by decide))]
        exact dead84 τ6 _ _ _ er2 (fP_n (by decide)) (hr6.tr hr7) (hf _)
    · have hn2 : numP kd vl 1 300 1 T (fun v i => (0, i, upT T 1 v)) = fP kd f 1 T := hq T _
      rw [hn2, seqR_n (fP_n hf)] at er
      exact t_endsD (by omega) (by rw [up_nc (by decide)]; exact h7) (fun v => dead84 _ _ _ _ er (fP_n hf) ((hr3.tr hr4.l).tr hr5.l).u9.u9 (hfl T).u.u)
  · have er : pRoom kd vl st t T = fP kd 2 0 T := by unfold pRoom; rw [if_neg (by omega)]
    refine t_takesND (by omega) h7 (fun x => t_endsD (by omega) (by rw [up_nc (by decide)]; exact h7) (fun v => dead84 _ _ _ _ er (fP_n (by decide)) (hr3.tr hr4.l).u9.u9 (hf T).u.u))
end
