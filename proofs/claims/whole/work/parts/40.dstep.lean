/-! one deed, both sides, over how things stand (f: read, found, asleep, days, the number drawn from) -/
noncomputable def awo (T : Int → Int) (a : Int) : Int := ian (2 ^ (T 2).toNat - 1) (ixo a (-1))
noncomputable def morF (T : Int → Int) (f : Int → Int) (R : RL) : Int → Int := fun k => if k = 0 then (mornF T R (f 0) (f 1) (f 4)).1 else if k = 1 then (mornF T R (f 0) (f 1) (f 4)).2.1 else if k = 2 then f 2 else if k = 3 then w32 (f 3 + 1) else (mornF T R (f 0) (f 1) (f 4)).2.2.1
def fB (f : Int → Int) : Prop := (0 ≤ f 0 ∧ f 0 < 64) ∧ (0 ≤ f 1 ∧ f 1 < 64) ∧ (0 ≤ f 2 ∧ f 2 < 8)
theorem mornS_b {T : Int → Int} {a : Int → Int} (ha : ∀ p, 0 ≤ a p ∧ a p < 6) {s0 : Int × Int × Int × Int} (h0 : 0 ≤ s0.1 ∧ s0.1 < 64) (h1 : 0 ≤ s0.2.1 ∧ s0.2.1 < 64) : ∀ n : Nat, (0 ≤ (mornS T a s0 n).1 ∧ (mornS T a s0 n).1 < 64) ∧ (0 ≤ (mornS T a s0 n).2.1 ∧ (mornS T a s0 n).2.1 < 64)
  | 0 => ⟨h0, h1⟩
  | n + 1 => by
    have ih := mornS_b (T := T) ha h0 h1 n
    simp only [mornS]
    refine ⟨bor_lt ih.1 (ha n), ?_⟩
    split
    · exact bor_lt ih.2 (ha n)
    · exact ih.2
theorem morF_b {T : Int → Int} {f : Int → Int} {R : RL} (q : in63 R) (h : fB f) : fB (morF T f R) := by
  have b := mornS_b (T := T) (kAt6 q) (s0 := (f 0, f 1, f 4, 0)) h.1 h.2.1 R.length
  refine ⟨?_, ?_, ?_⟩
  · show 0 ≤ (mornF T R (f 0) (f 1) (f 4)).1 ∧ (mornF T R (f 0) (f 1) (f 4)).1 < 64; exact b.1
  · show 0 ≤ (mornF T R (f 0) (f 1) (f 4)).2.1 ∧ (mornF T R (f 0) (f 1) (f 4)).2.1 < 64; exact b.2
  · exact h.2.2
theorem morF_at {T : Int → Int} {f : Int → Int} {R : RL} : morF T f R 0 = (mornF T R (f 0) (f 1) (f 4)).1 ∧ morF T f R 1 = (mornF T R (f 0) (f 1) (f 4)).2.1 ∧ morF T f R 2 = f 2 ∧ morF T f R 3 = w32 (f 3 + 1) ∧ morF T f R 4 = (mornF T R (f 0) (f 1) (f 4)).2.2.1 := ⟨rfl, rfl, rfl, rfl, rfl⟩
theorem ST.b {σ : Mem} {s : Nat} {H : Int} {f : Int → Int} (h : ST σ s H f) : fB f := h.2.2.2.2.2
theorem awo_b {T : Int → Int} (hT : MT T) {a : Int} (ha : 0 ≤ a ∧ a < 8) : 0 ≤ awo T a ∧ awo T a < 8 := by
  have := aw_lt hT.2.1 ha
  have := pw8 hT.2.1
  unfold awo; omega
def xoF (f : Int → Int) (h : Int) : Int → Int := fun k => if k = 2 then ixo (f 2) (ish 1 h) else f k
/-- a deed: why not, how things stand then, the row then -/
noncomputable def dpF (T : Int → Int) (f : Int → Int) (R : RL) (v : Int) : Int × (Int → Int) × RL :=
  if v = 100 then (0, morF T f R, [])
  else if v = 200 then (0, morF T f (ruleF T (f 0) (awo T (f 2)) (T 4).toNat), [])
  else if 300 ≤ v ∧ v < 300 + T 2 then (0, xoF f (v - 300), R)
  else ((takeF T (f 0) (awo T (f 2)) R v).1, f, (takeF T (f 0) (awo T (f 2)) R v).2)
theorem dpF_ok {T : Int → Int} (hT : MT T) {f : Int → Int} {R : RL} {v : Int} (hf : fB f) (hR : RV T R) : fB (dpF T f R v).2.1 ∧ RV T (dpF T f R v).2.2 := by
  have t2 := hT.2.1
  have t4 := hT.2.2.2.1
  unfold dpF
  split
  · exact ⟨morF_b (in63.of hT hR) hf, trivial⟩
  · split
    · exact ⟨morF_b (in63.of hT (ruleF_RV hT _ (by omega))) hf, trivial⟩
    · split
      · exact ⟨⟨hf.1, hf.2.1, xo_lt hf.2.2 (by omega)⟩, hR⟩
      · exact ⟨hf, takeF_RV hR⟩
section
variable {E : EN} {d : Nat} {σ : Mem} {R : RL} {T : Int → Int} {f : Int → Int}
/-- the rows of the class's side: what stays -/
theorem HP.dee {σ τ : Mem} {T : Int → Int} (h : HP σ T) {s : Nat} (hs : isStg s) (hF : Fr (s :: rowS 73) σ τ) : HP τ T := by
  have n : ∀ c, c < 50 → τ c = σ c := fun c hc => hF c (by
    have := (stg_ne hs)
    simp only [List.mem_cons, not_or]
    refine ⟨?_, rowN (by omega)⟩
    intro e; subst e
    rcases hs with e | e | e | e | e | e | e | e | e | e | e | e | e | e <;> omega)
  exact h.fr (n 2 (by decide)) (n 8 (by decide)) (n 9 (by decide)) (n 10 (by decide)) (n 11 (by decide)) (n 12 (by decide))
theorem u_readRow {K : Int → Mem → Prop} {s : Nat} (hd : 2 ≤ d) (hs : isStg s) (hT : MT T) (hP : HP σ T) (hS : ST σ s (T 2) f) (hRV : RV T R) (hR : RowC σ 73 (gM T) R) (q : ∀ τ : Mem, Fr (s :: rowS 73) σ τ → RowC τ 73 (gM T) [] → ST τ s (T 2) (morF T f R) → K (mornF T R (f 0) (f 1) (f 4)).2.2.2 τ) : CI E y_Doer_readRow d [vr 91, vr s] σ K := by
  obtain ⟨s0, s1, s2, s3, s4, -⟩ := id hS
  refine s_Doer_readRow hd hs hT hP hRV hR (fun τ hF hC e0 e1 e4 e2 e3 => ?_)
  rw [s0, s1, s4] at *
  refine q τ hF hC ⟨e0, e1, ?_, ?_, e4, morF_b (in63.of hT hRV) hS.b⟩
  · rw [e2, s2]; rfl
  · rw [e3, s3]; rfl
theorem u_takeM {K : Int → Mem → Prop} {s : Nat} {v : Int} (hd : 3 ≤ d) (hs : isStg s) (hT : MT T) (hP : HP σ T) (hc2 : 0 ≤ σ 2 2 ∧ σ 2 2 ≤ 4) (hS : ST σ s (T 2) f) (hRV : RV T R) (hR : RowC σ 73 (gM T) R) (q : ∀ τ : Mem, Fr (rowS 73) σ τ → RowC τ 73 (gM T) (takeF T (f 0) (awo T (f 2)) R v).2 → ((takeF T (f 0) (awo T (f 2)) R v).1 = 0 → MdOK τ (gM T) (takeF T (f 0) (awo T (f 2)) R v).2) → K (takeF T (f 0) (awo T (f 2)) R v).1 τ) : CI E y_Doer_take d [vr 91, vl v, vr s] σ K := by
  obtain ⟨s0, s1, s2, -⟩ := id hS
  have s2' : σ s 2 = awo T (f 2) := s2
  refine s_Doer_takeM hd hs hT hP hc2 (by rw [s0]; exact hS.b.1) (by rw [s2']; exact awo_b hT hS.b.2.2) hRV hR (fun τ hF hC hMd => ?_)
  rw [s0, s2'] at *
  exact q τ hF hC hMd
theorem u_take {K : Int → Mem → Prop} {s : Nat} {v : Int} (hd : 3 ≤ d) (hs : isStg s) (hT : MT T) (hP : HP σ T) (hc2 : 0 ≤ σ 2 2 ∧ σ 2 2 ≤ 4) (hS : ST σ s (T 2) f) (hRV : RV T R) (hR : RowC σ 73 (gM T) R) (q : ∀ τ : Mem, Fr (rowS 73) σ τ → RowC τ 73 (gM T) (takeF T (f 0) (awo T (f 2)) R v).2 → K (takeF T (f 0) (awo T (f 2)) R v).1 τ) : CI E y_Doer_take d [vr 91, vl v, vr s] σ K := by
  exact u_takeM hd hs hT hP hc2 hS hRV hR (fun τ a b _ => q τ a b)
theorem ops_1 : ∀ (L : Fin 7) (r : Fin 64) (k : Fin 6), k.val < L.val → (bt (ian (2 ^ L.val - 1) (ixo (r.val : Int) (-1))) (k.val : Int) = 0 ↔ bt (r.val : Int) (k.val : Int) = 1) := by decide +kernel
theorem ops {L r k : Int} (hL : 0 ≤ L ∧ L ≤ 6) (hr : 0 ≤ r ∧ r < 64) (hk : 0 ≤ k ∧ k < L) : (bt (ian (2 ^ L.toNat - 1) (ixo r (-1))) k = 0 ↔ bt r k = 1) := by
  have := ops_1 ⟨L.toNat, by omega⟩ ⟨r.toNat, by omega⟩ ⟨k.toNat, by omega⟩ (by show k.toNat < L.toNat; omega)
  simp only [show ((r.toNat : Nat) : Int) = r by omega, show ((k.toNat : Nat) : Int) = k by omega] at this
  exact this
/-- the row by rule of what isn't read -/
theorem u_ruleRow {K : Mem → Prop} {op rd aw : Int} (hd : 3 ≤ d) (hT : MT T) (hP : HP σ T) (hc2 : 0 ≤ σ 2 2 ∧ σ 2 2 ≤ 4) (haw : 0 ≤ aw ∧ aw < 8) (hrd : 0 ≤ rd ∧ rd < 64) (ho : op = ian (2 ^ (T 4).toNat - 1) (ixo rd (-1))) (q : ∀ τ : Mem, Fr (rowS 73) σ τ → RowC τ 73 (gM T) (ruleF T rd aw (T 4).toNat) → K τ) : CV E y_Doer_ruleRow d [vr 91, vi op, vi aw] σ K := by
  rw [ho]
  exact s_Doer_ruleRow hd hT hP hc2 haw (ian_i32 _ _) (fun k k0 k1 => ops hT.2.2.2.1 hrd ⟨k0, k1⟩) q
theorem stg2 {s : Nat} (h : isStg s) : s ≠ 2 ∧ s ≠ 91 ∧ ¬ (102 ≤ s ∧ s ≤ 109) ∧ ¬ (73 ≤ s ∧ s ≤ 81) := by
  rcases h with rfl | rfl | rfl | rfl | rfl | rfl | rfl | rfl | rfl | rfl | rfl | rfl | rfl | rfl <;> decide
theorem u_deed {K : Int → Mem → Prop} {s : Nat} {v : Int} (hd : 4 ≤ d) (hs : isStg s) (hT : MT T) (hP : HP σ T) (hc2 : 0 ≤ σ 2 2 ∧ σ 2 2 ≤ 4) (hv : i64 v) (hS : ST σ s (T 2) f) (hRV : RV T R) (hR : RowC σ 73 (gM T) R) (q : ∀ τ : Mem, Fr (s :: rowS 73) σ τ → RowC τ 73 (gM T) (dpF T f R v).2.2 → ST τ s (T 2) (dpF T f R v).2.1 → K (dpF T f R v).1 τ) : CI E y_Doer_deed d [vr 91, vl v, vr s] σ K := by
  have t2 := hT.2.1
  have t4 := hT.2.2.2.1
  obtain ⟨p0, p1, p3, -⟩ := id hP
  obtain ⟨s0, s1, s2, s3, s4, sb⟩ := id hS
  have ns := stg_ne hs
  have ns2 := stg2 hs
  have fw : ∀ {τ : Mem}, Fr (rowS 73) σ τ → Fr (s :: rowS 73) σ τ := fun h => h.wk (fun c hc => List.mem_cons_of_mem _ hc)
  have tk : ¬ v = 100 → ¬ v = 200 → ¬ (300 ≤ v ∧ v < 300 + T 2) → CI E y_Doer_take (d - 1) [vr 91, vl v, vr s] σ K := by
    intro n1 n2 n3
    refine u_take (by omega) hs hT hP hc2 hS hRV hR (fun τ hF hC => ?_)
    have e : dpF T f R v = ((takeF T (f 0) (awo T (f 2)) R v).1, f, (takeF T (f 0) (awo T (f 2)) R v).2) := by unfold dpF; rw [if_neg n1, if_neg n2, if_neg n3]
    have := q τ (fw hF)
    rw [e] at this
    exact this hC (hS.fr (fun k _ _ => by rw [hF s ns.2.2.2]) (fun _ _ _ => rfl))
  refine c_Doer_deed (b_Doer_deed_0 hs (by omega) ?_)
  rw [lcm_ne, lcm_ne, lcm_lt, lcm_ge, lcm_eq, lcm_eq, p1, wid (x := 300 + T 2) (by omega) (by omega), lcm_ge, lcm_lt]
  refine ⟨fun n1 => ⟨fun n2 => ⟨fun n3 => tk n1 n2 (by omega), fun n3 => ⟨fun n4 => tk n1 n2 (by omega), fun n4 => ?_⟩⟩, fun n2 => ?_⟩, fun n1 => ?_⟩
  · have e : dpF T f R v = (0, xoF f (v - 300), R) := by unfold dpF; rw [if_neg n1, if_neg n2, if_pos ⟨n3, n4⟩]
    have := q (up σ s 2 (ixo (σ s 2) (ish 1 (w32 (w64 (v - 300)))))) (Fr.rf.up (by simp))
    rw [e] at this
    refine this ?_ ?_
    · obtain ⟨h1, h2, h3, h4, h5, h6, h7⟩ := hR
      have u : ∀ c, 73 ≤ c → c ≤ 81 → up σ s 2 (ixo (σ s 2) (ish 1 (w32 (w64 (v - 300))))) c = σ c := fun c a b => up_cell (by omega)
      exact ⟨by rw [u 73 (by decide) (by decide)]; exact h1, h2, by rw [u 73 (by decide) (by decide)]; exact h3, h4.congr (fun i _ _ => by rw [u _ (by decide) (by decide), u _ (by decide) (by decide), u _ (by decide) (by decide), u _ (by decide) (by decide)]; exact ⟨rfl, rfl, rfl, rfl⟩), fun x a b => by rw [u _ (by decide) (by decide)]; exact h5 x a b, h6.congr (fun i _ _ => by rw [u _ (by decide) (by decide)]), by rw [u _ (by decide) (by decide)]; exact h7⟩
    · rw [wid64 (x := v - 300) (by omega) (by omega), wid (x := v - 300) (by omega) (by omega), s2, xo_aw t2 sb.2.2 (h := v - 300) (by omega)]
      refine ⟨by rw [up_nk (by decide)]; exact s0, by rw [up_nk (by decide)]; exact s1, by rw [up_same]; rfl, by rw [up_nk (by decide)]; exact s3, by rw [up_nk (by decide)]; exact s4, sb.1, sb.2.1, xo_lt sb.2.2 (by omega)⟩
  · have e : dpF T f R v = (0, morF T f (ruleF T (f 0) (awo T (f 2)) (T 4).toNat), []) := by unfold dpF; rw [if_neg n1, if_pos n2]
    refine s_Room_allLetters (Or.inl rfl) (by omega) ?_
    have s2' : σ s 2 = awo T (f 2) := s2
    rw [s2']
    refine u_ruleRow (rd := f 0) (by omega) hT hP hc2 (awo_b hT sb.2.2) sb.1 (by rw [p3, s0]) (fun τ hF hC => ?_)
    refine u_readRow (by omega) hs hT (hP.row hF) (hS.fr (fun k _ _ => by rw [hF s ns.2.2.2]) (fun _ _ _ => rfl)) (ruleF_RV hT _ (by omega)) hC (fun τ2 hF2 hC2 hS2 => ?_)
    have := q τ2 ((fw hF).tr hF2)
    rw [e] at this
    exact this hC2 hS2
  · have e : dpF T f R v = (0, morF T f R, []) := by unfold dpF; rw [if_pos n1]
    refine u_readRow (by omega) hs hT hP hS hRV hR (fun τ2 hF2 hC2 hS2 => ?_)
    have := q τ2 hF2
    rw [e] at this
    exact this hC2 hS2
end
section
variable {E : EN} {d : Nat} {σ : Mem} {R : RL} {T : Int → Int} {f : Int → Int}
/-- the reference's side: the table tells T's room, and how things stand is f -/
def MS (σ : Mem) (T f : Int → Int) : Prop := TX T (σ 116) ∧ ∀ k : Int, 0 ≤ k → k < 5 → σ 116 (79 + k) = f k
theorem MS.at {σ : Mem} {T f : Int → Int} (h : MS σ T f) : σ 116 79 = f 0 ∧ σ 116 80 = f 1 ∧ σ 116 81 = f 2 ∧ σ 116 82 = f 3 ∧ σ 116 83 = f 4 :=
  ⟨h.2 0 (by decide) (by decide), h.2 1 (by decide) (by decide), h.2 2 (by decide) (by decide), h.2 3 (by decide) (by decide), h.2 4 (by decide) (by decide)⟩
theorem MS.of {σ : Mem} {T f : Int → Int} (x : TX T (σ 116)) (h : σ 116 79 = f 0 ∧ σ 116 80 = f 1 ∧ σ 116 81 = f 2 ∧ σ 116 82 = f 3 ∧ σ 116 83 = f 4) : MS σ T f := by
  refine ⟨x, fun k k0 k1 => ?_⟩
  obtain ⟨a, b, c, d, e⟩ := h
  rcases (show k = 0 ∨ k = 1 ∨ k = 2 ∨ k = 3 ∨ k = 4 by omega) with rfl | rfl | rfl | rfl | rfl
  · exact a
  · exact b
  · exact c
  · exact d
  · exact e
theorem MS.fr {σ τ : Mem} {T f : Int → Int} (h : MS σ T f) (e : τ 116 = σ 116) : MS τ T f := by unfold MS at h ⊢; rw [e]; exact h
theorem MS.awM (h : MS σ T f) : awM (σ 116) = awo T (f 2) := by
  unfold Jvm.Pilot.@@N@@.awM awo
  rw [h.at.2.2.1, h.1 2 (by omega) (by omega)]
theorem t_whyLast {K : Int → Mem → Prop} {v : Int} (hd : 5 ≤ d) (hT : MT T) (hS : MS σ T f) (hf : fB f) (hRV : RV T R) (hR : MRow σ (gM T) R) (q : ∀ τ : Mem, Fr whyS σ τ → keep [22, 23] σ τ → MRow τ (gM T) (takeF T (f 0) (awo T (f 2)) R v).2 → K (takeF T (f 0) (awo T (f 2)) R v).1 τ) : CI E y_Mod_whyLast d [vr 115, vl v] σ K := by
  have X := hS.1
  have i6 := in63.of hT hRV
  have ab := awo_b hT hf.2.2
  refine s_whyLast (R := R) hd (X.mt hT) (by rw [hS.at.1]; exact hf.1) (by rw [hS.awM]; unfold i64; omega) (X.rv hRV) (X.MR hT i6 hR) (fun τ hF hK hM => ?_)
  rw [hS.at.1, hS.awM, X.tf hT i6] at *
  exact q τ hF hK (X.sy.MR (X.mt hT) (in63.of hT (takeF_RV hRV)) hM)
/-- beside how things stand nothing of the table changes -/
def sb5 (σ τ : Mem) : Prop := ∀ k : Int, k < 79 ∨ 83 < k → τ 116 k = σ 116 k
theorem t_goesMorning {K : Int → Mem → Prop} (hd : 3 ≤ d) (hT : MT T) (hS : MS σ T f) (hRV : RV T R) (hR : MRow σ (gM T) R) (q : ∀ τ : Mem, Fr mornC σ τ → keep [22, 23] σ τ → sb5 σ τ → MS τ T (morF T f R) → MRow τ (gM T) [] → K (mornF T R (f 0) (f 1) (f 4)).2.2.2 τ) : CI E y_Mod_goesMorning d [vr 115] σ K := by
  have X := hS.1
  have i6 := in63.of hT hRV
  obtain ⟨a0, a1, a2, a3, a4⟩ := hS.at
  refine s_goesMorning (R := R) hd (X.mt hT) (X.rv hRV) (X.MR hT i6 hR) (fun τ hF hK hE hM e0 e1 e4 e2 e3 => ?_)
  rw [a0, a1, a4, X.mf hT i6] at *
  refine q τ hF hK hE (MS.of (X.tr hE.tx) ⟨e0, e1, ?_, ?_, e4⟩) ⟨hM.1, hM.2.1, hM.2.2.1, trivial⟩
  · rw [e2, a2]; rfl
  · rw [e3, a3]; rfl
theorem t_laysRule {K : Mem → Prop} {rd aw : Int} (hd : 5 ≤ d) (hT : MT T) (hX : TX T (σ 116)) (hrd : i64 rd) (haw : 0 ≤ aw ∧ aw < 8) (q : ∀ τ : Mem, Fr whyS σ τ → keep [22, 23] σ τ → MRow τ (gM T) (ruleF T rd aw (T 4).toNat) → K τ) : CV E y_Mod_laysRule d [vr 115, vi rd, vi aw] σ K := by
  have t4 := hT.2.2.2.1
  refine s_laysRule hd (hX.mt hT) hrd haw (fun τ hF hK hM => q τ hF hK ?_)
  rw [hX 4 (by omega) (by omega), hX.rf2 hT _ (by omega)] at hM
  exact hX.sy.MR (hX.mt hT) (in63.of hT (ruleF_RV hT _ (by omega))) hM
def ruleC : List Nat := [115, 116, 120, 121, 122, 123, 124, 125]
theorem t_goesRule {K : Mem → Prop} (hd : 6 ≤ d) (hT : MT T) (hS : MS σ T f) (hf : fB f) (q : ∀ τ : Mem, Fr ruleC σ τ → keep [22, 23] σ τ → sb5 σ τ → MS τ T (morF T f (ruleF T (f 0) (awo T (f 2)) (T 4).toNat)) → MRow τ (gM T) [] → K τ) : CV E y_Mod_goesRule d [vr 115] σ K := by
  have t4 := hT.2.2.2.1
  have t2 := hT.2.1
  refine c_Mod_goesRule (b_Mod_goesRule_0 (by omega) (s_awake (by rw [hS.1 2 (by omega) (by omega)]; exact t2) ?_))
  have e := hS.awM
  unfold Jvm.Pilot.@@N@@.awM at e
  rw [e, hS.at.1]
  refine t_laysRule (by omega) hT hS.1 (by have := hf.1; unfold i64; omega) (awo_b hT hf.2.2) (fun τ hF hK hM => ?_)
  have e6 : τ 116 = σ 116 := hF 116 (by decide)
  refine t_goesMorning (by omega) hT (hS.fr e6) (ruleF_RV hT _ (by omega)) hM (fun τ2 hF2 hK2 hb hS2 hM2 => ?_)
  exact q τ2 ((hF.wk (by decide)).tr (hF2.wk (by decide))) (hK.tr hK2) (fun k hk => by rw [hb k hk, e6]) hS2 hM2
theorem t_does {K : Int → Mem → Prop} {v : Int} (hd : 7 ≤ d) (hT : MT T) (hv : i64 v) (hS : MS σ T f) (hf : fB f) (hRV : RV T R) (hR : MRow σ (gM T) R) (q : ∀ τ : Mem, Fr ruleC σ τ → keep [22, 23] σ τ → sb5 σ τ → MS τ T (dpF T f R v).2.1 → MRow τ (gM T) (dpF T f R v).2.2 → K (dpF T f R v).1 τ) : CI E y_Mod_does d [vr 115, vl v] σ K := by
  have t2 := hT.2.1
  have e2 := hS.1 2 (by omega) (by omega)
  have tk : ¬ v = 100 → ¬ v = 200 → ¬ (300 ≤ v ∧ v < 300 + T 2) → ∀ τ, Fr whyS σ τ → keep [22, 23] σ τ → MRow τ (gM T) (takeF T (f 0) (awo T (f 2)) R v).2 → K (takeF T (f 0) (awo T (f 2)) R v).1 τ := by
    intro n1 n2 n3 τ hF hK hM
    have e : dpF T f R v = ((takeF T (f 0) (awo T (f 2)) R v).1, f, (takeF T (f 0) (awo T (f 2)) R v).2) := by unfold dpF; rw [if_neg n1, if_neg n2, if_neg n3]
    have e6 : τ 116 = σ 116 := hF 116 (by decide)
    have := q τ (hF.wk (by decide)) hK (fun k _ => by rw [e6])
    rw [e] at this
    exact this (hS.fr e6) hM
  refine c_Mod_does (b_Mod_does_0 (by omega) ?_)
  rw [lcm_ne, lcm_ne, lcm_eq, lcm_eq]
  refine ⟨fun n1 => ⟨fun n2 => s_within (fun hw => ⟨fun _ => ?_, fun z => absurd z (by decide)⟩) (fun hw => ⟨fun z => absurd rfl z, fun _ => t_whyLast (by omega) hT hS hf hRV hR (tk n1 n2 (by omega))⟩), fun n2 => ?_⟩, fun n1 => ?_⟩
  · rw [wid64 (x := v - 300) (by omega) (by omega), wid (x := v) (by omega) (by omega), wid (x := v - 300) (by omega) (by omega)]
    refine s_isHand (by omega) (by rw [e2]; exact t2) (fun hh => ⟨fun _ => ?_, fun z => absurd z (by decide)⟩) (fun hh => ⟨fun z => absurd rfl z, fun _ => ?_⟩)
    · rw [e2] at hh
      have e : dpF T f R v = (0, xoF f (v - 300), R) := by unfold dpF; rw [if_neg n1, if_neg n2, if_pos (by omega)]
      have := q (up σ 116 81 (ixo (σ 116 81) (ish 1 (v - 300)))) (Fr.rf.up (by decide)) (fun k _ => by rw [up_nc (by decide)]) (fun k hk => up_nk (by omega))
      rw [e] at this
      refine this (MS.of (hS.1.up (by omega)) ?_) (hR.fr (up_cell (by decide)) (up_cell (by decide)) (up_cell (by decide)) (up_cell (by decide)) (up_cell (by decide)))
      obtain ⟨a0, a1, a2, a3, a4⟩ := hS.at
      exact ⟨by rw [up_nk (by decide)]; exact a0, by rw [up_nk (by decide)]; exact a1, by rw [up_same, a2]; rfl, by rw [up_nk (by decide)]; exact a3, by rw [up_nk (by decide)]; exact a4⟩
    · rw [e2] at hh
      have et : takeF T (f 0) (awo T (f 2)) R v = (1, R) := by unfold takeF; rw [if_pos (by omega)]
      have := tk n1 n2 (by omega) σ Fr.rf keep.rf
      rw [et] at this
      exact this hR
  · have e : dpF T f R v = (0, morF T f (ruleF T (f 0) (awo T (f 2)) (T 4).toNat), []) := by unfold dpF; rw [if_neg n1, if_pos n2]
    refine t_goesRule (by omega) hT hS hf (fun τ hF hK hb hS2 hM => ?_)
    have := q τ hF hK hb
    rw [e] at this
    exact this hS2 hM
  · have e : dpF T f R v = (0, morF T f R, []) := by unfold dpF; rw [if_pos n1]
    refine t_goesMorning (by omega) hT hS hRV hR (fun τ hF hK hb hS2 hM => ?_)
    have := q τ (hF.wk (by decide)) hK hb
    rw [e] at this
    exact this hS2 hM
end
