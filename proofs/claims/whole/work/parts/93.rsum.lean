/-! the reference: readAtom, readTerm, readSum -/
def rdK : List Int := [6, 7, 9, 10, 11, 12]
def rrf (σ τ : Mem) : Prop := Fr [115, 119] σ τ ∧ keep rdK σ τ
theorem rrf.rf {σ : Mem} : rrf σ σ := ⟨Fr.rf, keep.rf⟩
theorem rrf.tr {σ τ υ : Mem} (h : rrf σ τ) (g : rrf τ υ) : rrf σ υ := ⟨h.1.tr g.1, h.2.tr g.2⟩
theorem rrf.u119 {σ τ : Mem} {k v : Int} (h : rrf σ τ) : rrf σ (up τ 119 k v) := ⟨h.1.up (by decide), fun x hx => by rw [up_nc (by decide)]; exact h.2 x hx⟩
/-- the reference is alive at token j, with the table T -/
def RL0 (t : Int → Int) (n N : Int) (kd st vl en : Int → Int) (σ : Mem) (j : Int) (T : TB) : Prop := σ 118 = t ∧ σ 115 8 = n ∧ RT σ kd st vl en j ∧ σ 119 = T ∧ σ 115 11 = 0 ∧ (0 ≤ j ∧ j ≤ N ∧ N ≤ 900) ∧ (0 ≤ T 135 ∧ T 135 ≤ j)
/-- how it ends: r is what the tokens say -/
def RE (kd st vl en : Int → Int) (N : Int) (σ τ : Mem) (j : Int) (T : TB) (r : Rs) : Prop := rrf σ τ ∧ (r.1 = 0 → τ 115 11 = 0 ∧ RT τ kd st vl en r.2.1 ∧ τ 119 = r.2.2 ∧ (j < r.2.1 ∧ r.2.1 ≤ N) ∧ (T 135 ≤ r.2.2 135 ∧ r.2.2 135 - T 135 ≤ r.2.1 - j)) ∧ (r.1 ≠ 0 → τ 115 11 = r.1 ∧ τ 115 12 = st r.2.1)
section
variable {E : EN} {t : Int → Int} {n N : Int} {kd st vl en : Int → Int} {l : Int}
theorem RE.nx {σ τ : Mem} {j : Int} {T : TB} {r : Rs} (h : RE kd st vl en N σ τ j T r) (hs : RL0 t n N kd st vl en σ j T) (h0 : r.1 = 0) : RL0 t n N kd st vl en τ r.2.1 r.2.2 := by
  obtain ⟨a, b, -⟩ := h
  obtain ⟨b1, b2, b3, b4, b5⟩ := b h0
  obtain ⟨s1, s2, s3, s4, s5, s6, s7⟩ := hs
  exact ⟨by rw [a.1 118 (by decide)]; exact s1, by rw [a.2 8 (by decide)]; exact s2, b2, b3, b1, ⟨by omega, b4.2, s6.2.2⟩, ⟨by omega, by omega⟩⟩
theorem t_nx {d : Nat} {σ : Mem} {K : Mem → Prop} {j : Int} {T : TB} (hd : 5 ≤ d) (hn : 0 ≤ n ∧ n ≤ 900) (hT : TokOK t n N kd st vl en) (hs : RL0 t n N kd st vl en σ j T) (hj : j < N) (q : ∀ τ, rrf σ τ → RL0 t n N kd st vl en τ (j + 1) T → K τ) : CV E y_Mod_next d [vr 115] σ K := by
  obtain ⟨s1, s2, s3, s4, s5, s6, s7⟩ := hs
  refine t_next hd hn hT s1 s2 (j := j + 1) ⟨by omega, by omega⟩ (by rw [pe_s s6.1]; exact s3.2.1) (fun τ hF hK hR => q τ ⟨hF.wk (by decide), fun k hk => hK k (by simp [rdK, nxK] at hk ⊢; omega)⟩ ⟨by rw [hF.one (by decide)]; exact s1, by rw [hK 8 (by decide)]; exact s2, hR, by rw [hF.one (by decide)]; exact s4, by rw [hK 11 (by decide)]; exact s5, ⟨by omega, by omega, s6.2.2⟩, ⟨s7.1, by omega⟩⟩)
theorem t_is {d : Nat} {σ : Mem} {K : Int → Mem → Prop} {j k : Int} {T : TB} (hs : RL0 t n N kd st vl en σ j T) (k1 : rkK (kd j) = k → K 1 σ) (k0 : rkK (kd j) ≠ k → K 0 σ) : CI E y_Mod_is d [vr 115, vi k] σ K := by
  obtain ⟨s1, s2, s3, s4, s5, s6, s7⟩ := hs
  refine c_Mod_is (b_Mod_is_0 ⟨fun z => absurd s5 z, fun _ => ?_⟩)
  rw [s3.2.2.1]; exact ⟨k0, k1⟩
theorem t_isD {d : Nat} {σ : Mem} {K : Int → Mem → Prop} {k : Int} (h : σ 115 11 ≠ 0) (k0 : K 0 σ) : CI E y_Mod_is d [vr 115, vi k] σ K := c_Mod_is (b_Mod_is_0 ⟨fun _ => k0, fun z => absurd z h⟩)
theorem t_eatsD {d : Nat} {σ : Mem} {K : Int → Mem → Prop} {k : Int} (hd : 1 ≤ d) (h : σ 115 11 ≠ 0) (k0 : K 0 σ) : CI E y_Mod_eats d [vr 115, vi k] σ K := c_Mod_eats (b_Mod_eats_0 hd (t_isD h ⟨fun z => absurd rfl z, fun _ => k0⟩))
theorem t_failsD {d : Nat} {σ : Mem} {K : Mem → Prop} {f : Int} (h : σ 115 11 ≠ 0) (k0 : K σ) : CV E y_Mod_fails d [vr 115, vi f] σ K := c_Mod_fails (b_Mod_fails_0 ⟨fun z => absurd z h, fun _ => k0⟩)
theorem t_codesD {d : Nat} {σ : Mem} {K : Mem → Prop} {f : Int} (h : σ 115 11 ≠ 0) (k0 : K σ) : CV E y_Mod_codes d [vr 115, vi f] σ K := c_Mod_codes (b_Mod_codes_0 ⟨fun z => absurd z h, fun _ => k0⟩)
theorem t_eats {d : Nat} {σ : Mem} {K : Int → Mem → Prop} {j k : Int} {T : TB} (hd : 6 ≤ d) (hn : 0 ≤ n ∧ n ≤ 900) (hT : TokOK t n N kd st vl en) (hs : RL0 t n N kd st vl en σ j T) (hk : k ≠ 24) (k1 : rkK (kd j) = k → j < N → ∀ τ, rrf σ τ → RL0 t n N kd st vl en τ (j + 1) T → K 1 τ) (k0 : rkK (kd j) ≠ k → K 0 σ) : CI E y_Mod_eats d [vr 115, vi k] σ K := by
  have s6 := hs.2.2.2.2.2.1
  refine c_Mod_eats (b_Mod_eats_0 (by omega) (t_is hs (fun e => ⟨fun _ => ?_, fun z => absurd z (by decide)⟩) (fun ne => ⟨fun z => absurd rfl z, fun _ => k0 ne⟩)))
  have jl : j < N := kd_lt hT ⟨s6.1, s6.2.1⟩ (fun z => by rw [z] at e; exact hk e.symm)
  exact t_nx (by omega) hn hT hs jl (fun τ hr hs2 => k1 e jl τ hr hs2)
/-- a fault at token j -/
theorem t_fails {d : Nat} {σ σ0 : Mem} {K : Mem → Prop} {j f j0 : Int} {T T0 U : TB} (hT : TokOK t n N kd st vl en) (hs : RL0 t n N kd st vl en σ j T) (hf : f ≠ 0) (hr : rrf σ0 σ) (q : ∀ τ, RE kd st vl en N σ0 τ j0 T0 (fP kd f j U) → τ 115 11 ≠ 0 → K τ) : CV E y_Mod_fails d [vr 115, vi f] σ K := by
  obtain ⟨s1, s2, s3, s4, s5, s6, s7⟩ := hs
  have kv := rk_i (kd_v hT ⟨s6.1, s6.2.1⟩).1
  have fr : ∀ a b, rrf σ0 (up (up σ 115 11 a) 115 12 b) := fun a b => ⟨(hr.1.up (by decide)).up (by decide), (hr.2.up (by decide)).up (by decide)⟩
  refine c_Mod_fails (b_Mod_fails_0 ⟨fun _ => ?_, fun z => absurd s5 z⟩)
  rw [s3.2.2.1, s3.1]
  refine ⟨fun ne => q _ ⟨fr _ _, fun z => absurd z (fP_n hf), fun _ => ⟨?_, ?_⟩⟩ ?_, fun e => q _ ⟨fr _ _, fun z => absurd z (fP_n hf), fun _ => ⟨?_, ?_⟩⟩ ?_⟩
  · rw [up_nk (by decide), up_same]; show f = (if kd j = 2 then 1 else f); rw [if_neg (by omega)]
  · rw [up_same]; rfl
  · rw [up_nk (by decide), up_same]; exact hf
  · rw [up_nk (by decide), up_same]; show 1 = (if kd j = 2 then 1 else f); rw [if_pos (by omega)]
  · rw [up_same]; rfl
  · rw [up_nk (by decide), up_same]; decide
theorem t_codes {d : Nat} {σ : Mem} {K : Mem → Prop} {j c : Int} {T : TB} (hs : RL0 t n N kd st vl en σ j T) (h9 : T 135 + 1 ≤ j ∨ (j < N ∧ T 135 ≤ j)) (q : ∀ τ, rrf σ τ → τ 115 = σ 115 → τ 118 = σ 118 → τ 119 = cdP T c → K τ) : CV E y_Mod_codes d [vr 115, vi c] σ K := by
  obtain ⟨s1, s2, s3, s4, s5, s6, s7⟩ := hs
  refine c_Mod_codes (b_Mod_codes_0 ⟨fun _ => ?_, fun z => absurd s5 z⟩)
  rw [s4, wid (x := 136 + T 135) (by omega) (by omega), up_nk (by omega), s4, wid (x := T 135 + 1) (by omega) (by omega)]
  refine ⟨⟨by omega, by omega⟩, q _ (rrf.rf.u119.u119) (by rw [up_cell (by decide), up_cell (by decide)]) (by rw [up_cell (by decide), up_cell (by decide)]) ?_⟩
  rw [up_fn, up_fn, s4]; rfl
theorem RL0.c119 {σ τ : Mem} {j : Int} {T U : TB} (hs : RL0 t n N kd st vl en σ j T) (e5 : τ 115 = σ 115) (e8 : τ 118 = σ 118) (e9 : τ 119 = U) (hU : 0 ≤ U 135 ∧ U 135 ≤ j) : RL0 t n N kd st vl en τ j U := by
  obtain ⟨s1, s2, s3, s4, s5, s6, s7⟩ := hs
  exact ⟨by rw [e8]; exact s1, by rw [e5]; exact s2, by unfold RT at s3 ⊢; rw [e5]; exact s3, e9, by rw [e5]; exact s5, s6, hU⟩
theorem t_wordOf {d : Nat} {σ : Mem} {K : Int → Mem → Prop} {k : Int} (hk : KDv k) (h15 : σ 115 15 = l) (q : K (wdP l k) σ) : CI E y_Mod_wordOf d [vr 115, vi (rkK k)] σ K := by
  have kv := rk_i hk
  unfold wdP at q
  refine c_Mod_wordOf (b_Mod_wordOf_0 ⟨fun e => ?_, fun e => ?_, fun e => ?_, fun e => ?_, fun e => ?_, fun e => ?_, fun e => ?_, fun e => ?_, fun e => ?_⟩)
  · rw [if_neg (by omega), if_neg (by omega), if_neg (by omega), if_neg (by omega)] at q
    rw [h15]
    refine ⟨fun z => ?_, fun z => ?_⟩
    · rw [if_neg (fun y => z y.2)] at q; exact q
    · rw [if_pos ⟨by omega, z⟩] at q; exact q
  · rw [if_neg (by omega), if_neg (by omega), if_neg (by omega), if_neg (by omega), if_neg (by omega)] at q; exact q
  · rw [if_neg (by omega), if_neg (by omega), if_neg (by omega), if_neg (by omega), if_neg (by omega)] at q; exact q
  · rw [if_neg (by omega), if_neg (by omega), if_neg (by omega), if_pos (by omega)] at q; exact q
  · rw [if_pos (by omega)] at q; exact q
  · rw [if_neg (by omega), if_neg (by omega), if_neg (by omega), if_neg (by omega), if_neg (by omega)] at q; exact q
  · rw [if_neg (by omega), if_pos (by omega)] at q; exact q
  · rw [if_neg (by omega), if_neg (by omega), if_pos (by omega)] at q; exact q
  · rw [if_neg (by omega), if_neg (by omega), if_neg (by omega), if_neg (by omega), if_neg (by omega)] at q; exact q
/-- once there is a fault nothing more is read -/
theorem t_readSumD {d : Nat} {σ : Mem} {K : Mem → Prop} {a : Int} (hd : 5 ≤ d) (h : σ 115 11 ≠ 0) (q : K σ) : CV E y_Mod_readSum d [vr 115, vi a] σ K := by
  refine c_Mod_readSum (b_Mod_readSum_0 (by omega) (c_Mod_readTerm (b_Mod_readTerm_0 (by omega) (c_Mod_readAtom (b_Mod_readAtom_0 (by omega) (t_isD h ⟨fun _ => ⟨fun _ => b_Mod_readAtom_66 (by omega) (t_isD h ⟨fun _ => t_failsD h ?_, fun z => absurd rfl z⟩), fun z => absurd z h⟩, fun z => absurd rfl z⟩))))))
  refine b_Mod_readTerm_5 (by omega) (t_eatsD (by omega) h ⟨fun _ => ?_, fun z => absurd rfl z⟩)
  exact b_Mod_readSum_5 (by omega) (t_isD h ⟨fun z => absurd rfl z, fun _ => t_isD h ⟨fun _ => q, fun z => absurd rfl z⟩⟩)
def RAt (E : EN) (t : Int → Int) (n N : Int) (kd st vl en : Int → Int) (l : Int) (m : Nat) : Prop := ∀ {d : Nat} {σ : Mem} {j : Int} {T : TB} {K : Mem → Prop}, 3 * m + 9 ≤ d → RL0 t n N kd st vl en σ j T → σ 115 15 = l → (∀ τ, RE kd st vl en N σ τ j T (pAt kd vl l m j T) → K τ) → CV E y_Mod_readAtom d [vr 115, vi (6 - m)] σ K
theorem t_readTerm {m : Nat} (hn : 0 ≤ n ∧ n ≤ 900) (hA : RAt E t n N kd st vl en l m) (hT : TokOK t n N kd st vl en) {d : Nat} {σ : Mem} {j : Int} {T : TB} {K : Mem → Prop} (hd : 3 * m + 10 ≤ d) (hs : RL0 t n N kd st vl en σ j T) (h15 : σ 115 15 = l) (q : ∀ τ, RE kd st vl en N σ τ j T (pTe kd (pAt kd vl l m) j T) → K τ) : CV E y_Mod_readTerm d [vr 115, vi (6 - m)] σ K := by
  have loop : ∀ (F : Nat) (i : Int) (U : TB) (τ : Mem), N < i + F → rrf σ τ → RL0 t n N kd st vl en τ i U → (j < i ∧ i ≤ N) → (T 135 ≤ U 135 ∧ U 135 - T 135 ≤ i - j) → (∀ τ2, RE kd st vl en N σ τ2 j T (pTl kd (pAt kd vl l m) F i U) → K τ2) → Z E y_Mod_readTerm d 5 [some (vr 115), some (vi (6 - m))] [] τ (qv K) := by
    intro F
    induction F with
    | zero => intro i U τ hF hr hsi hji; intros; omega
    | succ F ih =>
      intro i U τ hF hr hsi hji hc qq
      have s6 := hsi.2.2.2.2.2.1
      have kv := rk_i (kd_v hT ⟨s6.1, s6.2.1⟩).1
      refine b_Mod_readTerm_5 (by omega) (t_eats (by omega) hn hT hsi (by decide) (fun e il τ1 hr1 hs1 => ⟨fun z => absurd z (by decide), fun _ => ?_⟩) (fun ne => ⟨fun _ => qq τ ?_, fun z => absurd rfl z⟩))
      · have e42 : kd i = 42 := by omega
        have er : pTl kd (pAt kd vl l m) (F + 1) i U = seqR (pAt kd vl l m (i + 1) U) (fun i U => pTl kd (pAt kd vl l m) F i (cdP U 3002)) := if_pos e42
        rw [er] at qq
        refine hA (by omega) hs1 (by rw [hr1.2 15 (by decide), hr.2 15 (by decide)]; exact h15) (fun τ2 hE => ?_)
        by_cases h0 : (pAt kd vl l m (i + 1) U).1 = 0
        · have hs2 := hE.nx hs1 h0
          obtain ⟨o1, o2, o3, o4, o5⟩ := hE.2.1 h0
          rw [seqR_0 h0] at qq
          have s7 := hs2.2.2.2.2.2.2
          have u7 := hsi.2.2.2.2.2.2
          refine t_codes hs2 (c := 3002) (by omega) (fun τ3 hr3 e5 e8 e9 => ?_)
          obtain ⟨c1, c2, c3⟩ := cdP_c (T := (pAt kd vl l m (i + 1) U).2.2) (c := 3002) s7.1
          exact ih _ _ τ3 (by omega) (((hr.tr hr1).tr hE.1).tr hr3) (hs2.c119 e5 e8 e9 ⟨by omega, by omega⟩) ⟨by omega, by omega⟩ ⟨by omega, by omega⟩ qq
        · rw [seqR_n h0] at qq
          obtain ⟨o1, o2⟩ := hE.2.2 h0
          have dd : τ2 115 11 ≠ 0 := by rw [o1]; exact h0
          refine t_codesD dd (b_Mod_readTerm_5 (by omega) (t_eatsD (by omega) dd ⟨fun _ => qq τ2 ⟨(hr.tr hr1).tr hE.1, fun z => absurd z h0, fun _ => ⟨o1, o2⟩⟩, fun z => absurd rfl z⟩))
      · have er : pTl kd (pAt kd vl l m) (F + 1) i U = (0, i, U) := if_neg (fun z => ne (by rw [z]; rfl))
        rw [er]
        exact ⟨hr, fun _ => ⟨hsi.2.2.2.2.1, hsi.2.2.1, hsi.2.2.2.1, hji, hc⟩, fun z => absurd rfl z⟩
  refine c_Mod_readTerm (b_Mod_readTerm_0 (by omega) (hA (by omega) hs h15 (fun τ hE => ?_)))
  by_cases h0 : (pAt kd vl l m j T).1 = 0
  · have hs2 := hE.nx hs h0
    obtain ⟨o1, o2, o3, o4, o5⟩ := hE.2.1 h0
    have e : pTe kd (pAt kd vl l m) j T = pTl kd (pAt kd vl l m) 1000 (pAt kd vl l m j T).2.1 (pAt kd vl l m j T).2.2 := seqR_0 h0
    rw [e] at q
    have s6 := hs.2.2.2.2.2.1
    exact loop 1000 _ _ τ (by omega) hE.1 hs2 o4 o5 q
  · obtain ⟨o1, o2⟩ := hE.2.2 h0
    have dd : τ 115 11 ≠ 0 := by rw [o1]; exact h0
    have e : pTe kd (pAt kd vl l m) j T = pAt kd vl l m j T := seqR_n h0
    rw [e] at q
    exact b_Mod_readTerm_5 (by omega) (t_eatsD (by omega) dd ⟨fun _ => q τ hE, fun z => absurd rfl z⟩)
theorem t_readSum {m : Nat} (hn : 0 ≤ n ∧ n ≤ 900) (hA : RAt E t n N kd st vl en l m) (hT : TokOK t n N kd st vl en) {d : Nat} {σ : Mem} {j : Int} {T : TB} {K : Mem → Prop} (hd : 3 * m + 11 ≤ d) (hs : RL0 t n N kd st vl en σ j T) (h15 : σ 115 15 = l) (q : ∀ τ, RE kd st vl en N σ τ j T (pSu kd (pAt kd vl l m) j T) → K τ) : CV E y_Mod_readSum d [vr 115, vi (6 - m)] σ K := by
  have loop : ∀ (F : Nat) (i : Int) (U : TB) (τ : Mem) (o2 : Option AV), N < i + F → rrf σ τ → RL0 t n N kd st vl en τ i U → (j < i ∧ i ≤ N) → (T 135 ≤ U 135 ∧ U 135 - T 135 ≤ i - j) → (∀ τ2, RE kd st vl en N σ τ2 j T (pSl kd (pTe kd (pAt kd vl l m)) F i U) → K τ2) → Z E y_Mod_readSum d 5 [some (vr 115), some (vi (6 - m)), o2] [] τ (qv K) := by
    intro F
    induction F with
    | zero => intro i U τ o2 hF hr hsi hji; intros; omega
    | succ F ih =>
      intro i U τ o2 hF hr hsi hji hc qq
      have s6 := hsi.2.2.2.2.2.1
      have kv := rk_i (kd_v hT ⟨s6.1, s6.2.1⟩).1
      have body : ∀ c : Int, (kd i = 43 ∨ kd i = 45) → c = (if kd i = 43 then 3000 else 3001) → CV E y_Mod_next (d - 1) [vr 115] τ (fun τ1 => CV E y_Mod_readTerm (d - 1) [vr 115, vi (6 - m)] τ1 (fun τ2 => CV E y_Mod_codes (d - 1) [vr 115, vi c] τ2 (fun τ3 => Z E y_Mod_readSum d 5 [some (vr 115), some (vi (6 - m)), some (vi c)] [] τ3 (qv K)))) := by
        intro c e hcc
        have il : i < N := kd_lt hT ⟨s6.1, s6.2.1⟩ (by omega)
        have er : pSl kd (pTe kd (pAt kd vl l m)) (F + 1) i U = seqR (pTe kd (pAt kd vl l m) (i + 1) U) (fun i2 U => pSl kd (pTe kd (pAt kd vl l m)) F i2 (cdP U (if kd i = 43 then 3000 else 3001))) := if_pos e
        rw [er, ← hcc] at qq
        refine t_nx (by omega) hn hT hsi il (fun τ1 hr1 hs1 => t_readTerm hn hA hT (by omega) hs1 (by rw [hr1.2 15 (by decide), hr.2 15 (by decide)]; exact h15) (fun τ2 hE => ?_))
        by_cases h0 : (pTe kd (pAt kd vl l m) (i + 1) U).1 = 0
        · have hs2 := hE.nx hs1 h0
          obtain ⟨o1, o2, o3, o4, o5⟩ := hE.2.1 h0
          rw [seqR_0 h0] at qq
          have s7 := hs2.2.2.2.2.2.2
          have u7 := hsi.2.2.2.2.2.2
          refine t_codes hs2 (c := c) (by omega) (fun τ3 hr3 e5 e8 e9 => ?_)
          obtain ⟨c1, c2, c3⟩ := cdP_c (T := (pTe kd (pAt kd vl l m) (i + 1) U).2.2) (c := c) s7.1
          exact ih _ _ τ3 _ (by omega) (((hr.tr hr1).tr hE.1).tr hr3) (hs2.c119 e5 e8 e9 ⟨by omega, by omega⟩) ⟨by omega, by omega⟩ ⟨by omega, by omega⟩ qq
        · rw [seqR_n h0] at qq
          obtain ⟨o1, o2⟩ := hE.2.2 h0
          have dd : τ2 115 11 ≠ 0 := by rw [o1]; exact h0
          exact t_codesD dd (b_Mod_readSum_5 (by omega) (t_isD dd ⟨fun z => absurd rfl z, fun _ => t_isD dd ⟨fun _ => qq τ2 ⟨(hr.tr hr1).tr hE.1, fun z => absurd z h0, fun _ => ⟨o1, o2⟩⟩, fun z => absurd rfl z⟩⟩))
      have b23 : (kd i = 43 ∨ kd i = 45) → Z E y_Mod_readSum d 23 [some (vr 115), some (vi (6 - m)), o2] [] τ (qv K) := by
        intro e
        refine b_Mod_readSum_23 (by omega) ?_
        rw [hsi.2.2.1.2.2.1]
        exact ⟨fun ne => body 3001 e (by rw [if_neg (by omega)]), fun eq => body 3000 e (by rw [if_pos (by omega)])⟩
      refine b_Mod_readSum_5 (by omega) (t_is hsi (fun e => ⟨fun _ => b23 (by omega), fun z => absurd z (by decide)⟩) (fun ne => ⟨fun z => absurd rfl z, fun _ => t_is hsi (fun e => ⟨fun z => absurd z (by decide), fun _ => b23 (by omega)⟩) (fun ne2 => ⟨fun _ => qq τ ?_, fun z => absurd rfl z⟩)⟩))
      have er : pSl kd (pTe kd (pAt kd vl l m)) (F + 1) i U = (0, i, U) := if_neg (fun z => z.elim (fun y => ne (by rw [y]; rfl)) (fun y => ne2 (by rw [y]; rfl)))
      rw [er]
      exact ⟨hr, fun _ => ⟨hsi.2.2.2.2.1, hsi.2.2.1, hsi.2.2.2.1, hji, hc⟩, fun z => absurd rfl z⟩
  refine c_Mod_readSum (b_Mod_readSum_0 (by omega) (t_readTerm hn hA hT (by omega) hs h15 (fun τ hE => ?_)))
  by_cases h0 : (pTe kd (pAt kd vl l m) j T).1 = 0
  · have hs2 := hE.nx hs h0
    obtain ⟨o1, o2, o3, o4, o5⟩ := hE.2.1 h0
    have e : pSu kd (pAt kd vl l m) j T = pSl kd (pTe kd (pAt kd vl l m)) 1000 (pTe kd (pAt kd vl l m) j T).2.1 (pTe kd (pAt kd vl l m) j T).2.2 := seqR_0 h0
    rw [e] at q
    have s6 := hs.2.2.2.2.2.1
    exact loop 1000 _ _ τ _ (by omega) hE.1 hs2 o4 o5 q
  · obtain ⟨o1, o2⟩ := hE.2.2 h0
    have dd : τ 115 11 ≠ 0 := by rw [o1]; exact h0
    have e : pSu kd (pAt kd vl l m) j T = pTe kd (pAt kd vl l m) j T := seqR_n h0
    rw [e] at q
    exact b_Mod_readSum_5 (by omega) (t_isD dd ⟨fun z => absurd rfl z, fun _ => t_isD dd ⟨fun _ => q τ hE, fun z => absurd rfl z⟩⟩)
theorem t_readAtom (hn : 0 ≤ n ∧ n ≤ 900) (hT : TokOK t n N kd st vl en) : ∀ m : Nat, m ≤ 6 → RAt E t n N kd st vl en l m := by
  intro m
  have flat : ∀ (sub : Int → TB → Rs) {d : Nat} {σ : Mem} {j a : Int} {T : TB} {K : Mem → Prop}, 9 ≤ d → RL0 t n N kd st vl en σ j T → σ 115 15 = l → (kd j = 40 → bAt kd vl l sub j T = sub j T → CI E y_Mod_goesIn (d - 1) [vr 115, vi a] σ (fun x3 τ3 => (x3 ≠ 0 → CV E y_Mod_readSum (d - 1) [vr 115, vi (w32 (a + 1))] τ3 (fun τ4 => CI E y_Mod_eats (d - 1) [vr 115, vi 36] τ4 (fun x5 τ5 => (x5 ≠ 0 → K τ5) ∧ (x5 = 0 → CV E y_Mod_fails (d - 1) [vr 115, vi 2] τ5 (fun τ6 => K τ6))))) ∧ (x3 = 0 → K τ3))) → (∀ τ, RE kd st vl en N σ τ j T (bAt kd vl l sub j T) → K τ) → CV E y_Mod_readAtom d [vr 115, vi a] σ K := by
    intro sub d σ j a T K hd hs h15 h40 q
    have s6 := hs.2.2.2.2.2.1
    have s7 := hs.2.2.2.2.2.2
    have hk := (kd_v hT ⟨s6.1, s6.2.1⟩).1
    have kv := rk_i hk
    have yes : ∀ c : Int, kd j ≠ 0 → bAt kd vl l sub j T = (0, j + 1, cdP T c) → CV E y_Mod_codes (d - 1) [vr 115, vi c] σ (fun τ6 => CV E y_Mod_next (d - 1) [vr 115] τ6 (fun τ7 => K τ7)) := by
      intro c h0 er
      have il : j < N := kd_lt hT ⟨s6.1, s6.2.1⟩ h0
      rw [er] at q
      obtain ⟨c1, c2, c3⟩ := cdP_c (T := T) (c := c) s7.1
      refine t_codes hs (c := c) (by omega) (fun τ1 hr1 e5 e8 e9 => ?_)
      obtain ⟨r1, r2, r3, r4, r5, r6, r7⟩ := id hs
      refine t_next (by omega) hn hT (by rw [e8]; exact r1) (by rw [e5]; exact r2) (j := j + 1) ⟨by omega, by omega⟩ (by rw [e5, pe_s s6.1]; exact r3.2.1) (fun τ hF hK hR => q τ ⟨hr1.tr ⟨hF.wk (by decide), fun k hk => hK k (by simp [rdK, nxK] at hk ⊢; omega)⟩, fun _ => ⟨by rw [hK 11 (by decide), e5]; exact r5, hR, by rw [hF.one (by decide)]; exact e9, ⟨by show j < j + 1; omega, by show j + 1 ≤ N; omega⟩, ?_⟩, fun z => absurd rfl z⟩)
      show T 135 ≤ cdP T c 135 ∧ cdP T c 135 - T 135 ≤ j + 1 - j
      omega
    have b66 : wdP l (kd j) = -1 → kd j ≠ 1 → Z E y_Mod_readAtom d 66 [some (vr 115), some (vi a)] [] σ (qv K) := by
      intro hw h1
      refine b_Mod_readAtom_66 (by omega) (t_is hs (fun e => ⟨fun z => absurd z (by decide), fun _ => h40 (by omega) ?_⟩) (fun ne => ⟨fun _ => t_fails hT hs (U := T) (j0 := j) (T0 := T) (by decide) rrf.rf (fun τ hE _ => q τ ?_), fun z => absurd rfl z⟩))
      · unfold bAt; rw [if_neg h1, if_neg (fun z => z hw), if_pos (by omega)]
      · have er : bAt kd vl l sub j T = fP kd 2 j T := by unfold bAt; rw [if_neg h1, if_neg (fun z => z hw), if_neg (fun z => ne (by rw [z]; rfl))]
        rw [er]; exact hE
    refine c_Mod_readAtom (b_Mod_readAtom_0 (by omega) (t_is hs (fun e => ⟨fun z => absurd z (by decide), fun _ => ?_⟩) (fun ne => ⟨fun _ => ⟨fun z => absurd hs.2.2.2.2.1 z, fun _ => ?_⟩, fun z => absurd rfl z⟩)))
    · have k1 : kd j = 1 := by omega
      rw [hs.2.2.1.2.2.2 k1]
      exact yes (vl j) (by omega) (by unfold bAt; rw [if_pos k1])
    · have n1 : kd j ≠ 1 := fun z => ne (by rw [z]; rfl)
      rw [hs.2.2.1.2.2.1]
      refine t_wordOf hk h15 ⟨fun hw => b66 hw n1, fun hw => ?_⟩
      rw [hs.2.2.1.2.2.1]
      refine t_wordOf hk h15 ?_
      have wb : 0 ≤ wdP l (kd j) ∧ wdP l (kd j) ≤ 4 ∧ kd j ≠ 0 := by
        unfold wdP at hw ⊢
        (repeat' split at hw) <;> (repeat' split) <;> omega
      rw [wid (x := 1000 + wdP l (kd j)) (by omega) (by omega)]
      exact yes _ wb.2.2 (by unfold bAt; rw [if_neg n1, if_pos hw])
  induction m with
  | zero =>
    intro _ d σ j T K hd hs h15 q
    refine flat (fun j T => fP kd 4 j T) (by omega) hs h15 (fun e er => ?_) q
    have e6 : (6 : Int) - ((0 : Nat) : Int) = 6 := by decide
    rw [e6]
    refine c_Mod_goesIn (b_Mod_goesIn_0 (by omega) ⟨fun z => absurd rfl z, fun _ => t_fails hT hs (U := T) (j0 := j) (T0 := T) (by decide) rrf.rf (fun τ hE hn0 => b_Mod_goesIn_11 (a1 := 0) (by omega) ⟨fun _ => ⟨fun _ => ⟨fun z => absurd rfl z, fun _ => q τ ?_⟩, fun z => absurd z hn0⟩, fun z => absurd z hn0⟩)⟩)
    have e2 : pAt kd vl l 0 j T = fP kd 4 j T := er
    rw [e2]; exact hE
  | succ m ih =>
    intro hm d σ j T K hd hs h15 q
    have s6 := hs.2.2.2.2.2.1
    refine flat (parP kd (pSu kd (pAt kd vl l m))) (by omega) hs h15 (fun e er => ?_) q
    have il : j < N := kd_lt hT ⟨s6.1, s6.2.1⟩ (by omega)
    have er2 : pAt kd vl l (m + 1) j T = parP kd (pSu kd (pAt kd vl l m)) j T := er
    rw [er2] at q
    unfold parP at q
    refine c_Mod_goesIn (b_Mod_goesIn_0 (by omega) ⟨fun _ => b_Mod_goesIn_11 (a1 := 0) (by omega) ⟨fun z => absurd hs.2.2.2.2.1 z, fun _ => t_nx (by omega) hn hT hs il (fun τ1 hr1 hs1 => ⟨fun z => absurd hs1.2.2.2.2.1 z, fun _ => ⟨fun _ => ?_, fun z => absurd z (by decide)⟩⟩)⟩, fun z => absurd z (by omega)⟩)
    rw [wid (x := 6 - ((m + 1 : Nat) : Int) + 1) (by omega) (by omega), show 6 - ((m + 1 : Nat) : Int) + 1 = 6 - (m : Int) by omega]
    refine t_readSum hn (ih (by omega)) hT (by omega) hs1 (by rw [hr1.2 15 (by decide)]; exact h15) (fun τ2 hE => ?_)
    by_cases h0 : (pSu kd (pAt kd vl l m) (j + 1) T).1 = 0
    · have hs2 := hE.nx hs1 h0
      obtain ⟨o1, o2, o3, o4, o5⟩ := hE.2.1 h0
      rw [seqR_0 h0] at q
      have u6 := hs2.2.2.2.2.2.1
      have kv := rk_i (kd_v hT ⟨u6.1, u6.2.1⟩).1
      refine t_eats (by omega) hn hT hs2 (by decide) (fun e3 il2 τ3 hr3 hs3 => ⟨fun _ => q τ3 ?_, fun z => absurd z (by decide)⟩) (fun ne => ⟨fun z => absurd rfl z, fun _ => t_fails hT hs2 (U := (pSu kd (pAt kd vl l m) (j + 1) T).2.2) (j0 := j) (T0 := T) (by decide) (hr1.tr hE.1) (fun τ3 hE3 _ => q τ3 ?_)⟩)
      · rw [if_pos (by omega)]
        refine ⟨(hr1.tr hE.1).tr hr3, fun _ => ⟨hs3.2.2.2.2.1, hs3.2.2.1, hs3.2.2.2.1, ⟨?_, ?_⟩, ?_⟩, fun z => absurd rfl z⟩
        · show j < (pSu kd (pAt kd vl l m) (j + 1) T).2.1 + 1; omega
        · show (pSu kd (pAt kd vl l m) (j + 1) T).2.1 + 1 ≤ N; omega
        · show T 135 ≤ (pSu kd (pAt kd vl l m) (j + 1) T).2.2 135 ∧ (pSu kd (pAt kd vl l m) (j + 1) T).2.2 135 - T 135 ≤ (pSu kd (pAt kd vl l m) (j + 1) T).2.1 + 1 - j; omega
      · rw [if_neg (fun z => ne (by rw [z]; rfl))]; exact hE3
    · rw [seqR_n h0] at q
      obtain ⟨o1, o2⟩ := hE.2.2 h0
      have dd : τ2 115 11 ≠ 0 := by rw [o1]; exact h0
      have fin : K τ2 := q τ2 ⟨hr1.tr hE.1, fun z => absurd z h0, fun _ => ⟨o1, o2⟩⟩
      exact t_eatsD (by omega) dd ⟨fun z => absurd rfl z, fun _ => t_failsD dd fin⟩
end
