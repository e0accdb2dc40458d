/-! slept, sleeper, judge, perform, mornings -/
theorem all_1 : ∀ (L : Fin 7) (k : Fin 6), k.val < L.val → bt (2 ^ L.val - 1) (k.val : Int) = 1 := by decide +kernel
theorem allb {L k : Int} (hL : 0 ≤ L ∧ L ≤ 6) (hk : 0 ≤ k ∧ k < L) : bt (2 ^ L.toNat - 1) k = 1 := by
  have := all_1 ⟨L.toNat, by omega⟩ ⟨k.toNat, by omega⟩ (by show k.toNat < L.toNat; omega)
  simp only [show ((k.toNat : Nat) : Int) = k by omega] at this
  exact this
theorem bt0 (k : Int) : bt 0 k = 0 := by unfold bt; rw [Int.zero_ediv]; rfl
/-- how many sets of hands asleep leave what is told, and who slept in all of them -/
noncomputable def slS (T : Int → Int) (s : Int) : Nat → Int × Int
  | 0 => (0, 2 ^ (T 2).toNat - 1)
  | n + 1 => if tkn (ruleF T 0 (ian (2 ^ (T 2).toNat - 1) (ixo (n : Int) (-1))) (T 4).toNat) = s then ((slS T s n).1 + 1, ian (slS T s n).2 (n : Int)) else slS T s n
theorem slS_b {T : Int → Int} {s : Int} : ∀ n : Nat, 0 ≤ (slS T s n).1 ∧ (slS T s n).1 ≤ n
  | 0 => by simp [slS]
  | n + 1 => by
    have := slS_b (T := T) (s := s) n
    simp only [slS]
    split
    · simp only; omega
    · omega
section
variable {E : EN} {d : Nat} {σ : Mem} {T : Int → Int}
theorem s_Room_hasSet {K : Int → Mem → Prop} {s : Int} (hd : 1 ≤ d) (h4 : 0 ≤ σ 2 3 ∧ σ 2 3 ≤ 6) (k1 : ian s (ixo (2 ^ (σ 2 3).toNat - 1) (-1)) = 0 → K 1 σ) (k0 : ian s (ixo (2 ^ (σ 2 3).toNat - 1) (-1)) ≠ 0 → K 0 σ) : CI E y_Room_hasSet d [vr 2, vi s] σ K :=
  c_Room_hasSet (b_Room_hasSet_0 (Or.inl rfl) hd (s_Room_allLetters (Or.inl rfl) h4 ⟨fun h => k0 h, fun h => k1 h⟩))
theorem s_isSet {K : Int → Mem → Prop} {s : Int} (hd : 1 ≤ d) (h4 : 0 ≤ σ 116 4 ∧ σ 116 4 ≤ 6) (k1 : ian s (ixo (2 ^ (σ 116 4).toNat - 1) (-1)) = 0 → K 1 σ) (k0 : ian s (ixo (2 ^ (σ 116 4).toNat - 1) (-1)) ≠ 0 → K 0 σ) : CI E y_Mod_isSet d [vr 115, vi s] σ K :=
  c_Mod_isSet (b_Mod_isSet_0 hd (s_letters h4 ⟨fun h => k0 h, fun h => k1 h⟩))
theorem s_readIfSlept {K : Int → Mem → Prop} {n : Nat} (hd : 4 ≤ d) (hT : MT T) (hP : HP σ T) (hc2 : 0 ≤ σ 2 2 ∧ σ 2 2 ≤ 4) (hn : (n : Int) < 2 ^ (T 2).toNat) (q : ∀ τ : Mem, Fr (rowS 73) σ τ → K (tkn (ruleF T 0 (ian (2 ^ (T 2).toNat - 1) (ixo (n : Int) (-1))) (T 4).toNat)) τ) : CI E y_BC_readIfSlept d [vr 0, vi (n : Int)] σ K := by
  have t2 := hT.2.1
  have t4 := hT.2.2.2.1
  have pw := pw8 t2
  have al := aw_lt t2 (a := (n : Int)) (by omega)
  obtain ⟨p0, p1, p3, -⟩ := id hP
  refine c_BC_readIfSlept (b_BC_readIfSlept_0 (by omega) (s_Room_allLetters (Or.inl rfl) (by omega) (s_Room_allHands (Or.inl rfl) (by omega) ?_)))
  rw [p1, p3]
  refine s_Doer_ruleRow (rd := 0) (by omega) hT hP hc2 (by omega) (by have := p2b (T 4) t4; unfold i32; omega) (fun k k0 k1 => ?_) (fun τ hF hR => ?_)
  · rw [allb t4 ⟨k0, k1⟩, bt0]; exact ⟨fun z => absurd z (by decide), fun z => absurd z (by decide)⟩
  · rw [hR.2.2.1]; exact q τ hF
theorem t_sleptFor {K : Int → Mem → Prop} {s : Int} (hd : 6 ≤ d) (hT : MT T) (hX : TX T (σ 116)) (q : ∀ τ : Mem, Fr whyS σ τ → keep [22, 23, 35] σ τ → τ 115 35 = (slS T s (2 ^ (T 2).toNat)).2 → K (slS T s (2 ^ (T 2).toNat)).1 τ) : CI E y_Mod_sleptFor d [vr 115, vi s] σ K := by
  have t2 := hT.2.1
  have pw := pw8 t2
  have h2 := hX 2 (by omega) (by omega)
  refine c_Mod_sleptFor (b_Mod_sleptFor_0 ?_)
  rw [(p2b (σ 116 2) (by omega)).2, h2]
  have cst : ((2 ^ (T 2).toNat : Nat) : Int) = 2 ^ (T 2).toNat := by norm_cast
  have loop : ∀ (m i : Nat) (τ : Mem), (i : Int) + m = 2 ^ (T 2).toNat → Fr whyS σ τ → keep [22, 23, 35] σ τ → τ 115 35 = (slS T s i).2 → Z E y_Mod_sleptFor d 21 [some (vr 115), some (vi s), some (vi (2 ^ (T 2).toNat - 1)), some (vi (slS T s i).1), some (vi (i : Int))] [] τ (qi K) := by
    intro m
    induction m with
    | zero =>
      intro i τ hi hF hK h35
      refine b_Mod_sleptFor_21 (by omega) ⟨fun _ => ?_, fun z => absurd z (by omega)⟩
      have : i = 2 ^ (T 2).toNat := by omega
      rw [this] at h35 ⊢
      exact q τ hF hK h35
    | succ m ih =>
      intro i τ hi hF hK h35
      have sb := slS_b (T := T) (s := s) i
      have al := aw_lt t2 (a := (i : Int)) (by omega)
      refine b_Mod_sleptFor_21 (by omega) ⟨fun z => absurd z (by omega), fun _ => ?_⟩
      refine t_laysRule (by omega) hT (by rw [hF 116 (by decide)]; exact hX) (by unfold i64; omega) (by omega) (fun τ2 hF2 hK2 hR2 => ?_)
      rw [hR2.2.2.1, wid (x := (i : Int) + 1) (by omega) (by omega), wid (x := (slS T s i).1 + 1) (by omega) (by omega)]
      have e35 : τ2 115 35 = (slS T s i).2 := by rw [hK2 35 (by decide), h35]
      have nx := fun τ => ih (i + 1) τ (by omega)
      simp only [slS] at nx
      have hF3 : Fr whyS σ τ2 := hF.tr hF2
      have hK3 : keep [22, 23, 35] σ τ2 := hK.tr (hK2.wk (by decide))
      refine ⟨fun e => ?_, fun e => ?_⟩
      · have := nx (up τ2 115 35 (ian (τ2 115 35) i)) (hF3.up (by decide)) (hK3.up (by decide))
        rw [if_pos e] at this
        exact this (by rw [up_same, e35])
      · have := nx τ2 hF3 hK3
        rw [if_neg e] at this
        exact this e35
  have hF0 : Fr whyS σ (up σ 115 35 (2 ^ (T 2).toNat - 1)) := Fr.rf.up (by decide)
  exact loop (2 ^ (T 2).toNat) 0 _ (by omega) hF0 (keep.rf.up (by decide)) (by rw [up_same]; rfl)
end
theorem sp28 : SP28 II := by
  intro E σ s hI hR hs
  obtain ⟨T, f, e6, hT, hH, hP, hc2, hS, hM, hf, hTr, hPa⟩ := hI.ex
  have t4 := hT.2.2.2.1
  have t2 := hT.2.1
  have pw := pw8 t2
  have p3 : σ 2 3 = T 4 := hP.2.2.1
  have p1 : σ 2 1 = T 2 := hP.2.1
  have e0 : up σ 115 0 0 116 = T := by rw [up_cell (by decide), e6]
  have cst : ((2 ^ (T 2).toNat : Nat) : Int) = 2 ^ (T 2).toNat := by norm_cast
  refine c_BC_slept (b_BC_slept_0 (by omega) (s_Room_hasSet (by omega) (by omega) (fun hz => ⟨fun _ => ?_, fun z => absurd z (by decide)⟩) (fun hz => ⟨fun z => absurd rfl z, fun _ => ?_⟩)))
  · rw [p3] at hz
    have M : ∀ τ, Fr rowD σ τ → CI E y_Mod_slept 400 [vr 115, vi s] τ (fun y υ => (slS T s (2 ^ (T 2).toNat)).1 = y ∧ II υ) := by
      intro τ hF
      have m6 : up τ 115 0 0 116 = T := by rw [up_cell (by decide), hF 116 (by decide), e6]
      refine c_Mod_slept (b_Mod_slept_0 (by omega) (s_isSet (by omega) (by rw [m6]; exact t4) (fun _ => ⟨fun z => absurd z (by decide), fun _ => ?_⟩) (fun z => absurd hz (by rw [m6] at z; exact z))))
      refine t_sleptFor (by omega) hT (by rw [m6]; exact TX.rf) (fun τ2 hF2 hK2 _ => ⟨rfl, (hI.row hF).thr.m2 (hF2.wk (by decide)) (hK2.wk (by decide))⟩)
    have loop : ∀ (m i : Nat) (τ : Mem), (i : Int) + m = 2 ^ (T 2).toNat → Fr rowD σ τ → Z E y_BC_slept 400 18 [some (vr 0), some (vi s), some (vi (slS T s i).1), some (vi (i : Int))] [] τ (qi fun x τ => CI E y_Mod_slept 400 [vr 115, vi s] τ (fun y υ => x = y ∧ II υ)) := by
      intro m
      induction m with
      | zero =>
        intro i τ hi hF
        have e2 : τ 2 = σ 2 := hF 2 (by decide)
        refine b_BC_slept_18 (by omega) (s_Room_allHands (Or.inl rfl) (by rw [e2]; omega) ⟨fun _ => ?_, fun z => absurd z (by rw [e2, p1]; omega)⟩)
        have : i = 2 ^ (T 2).toNat := by omega
        rw [this]; exact M τ hF
      | succ m ih =>
        intro i τ hi hF
        have e2 : τ 2 = σ 2 := hF 2 (by decide)
        have sb := slS_b (T := T) (s := s) i
        refine b_BC_slept_18 (by omega) (s_Room_allHands (Or.inl rfl) (by rw [e2]; omega) ⟨fun z => absurd z (by rw [e2, p1]; omega), fun _ => ?_⟩)
        refine s_readIfSlept (by omega) hT (hP.d91 hF (fun c hc => rowD_lt hc)) (by rw [e2]; exact hc2) (by omega) (fun τ2 hF2 => ?_)
        rw [wid (x := (i : Int) + 1) (by omega) (by omega), wid (x := (slS T s i).1 + 1) (by omega) (by omega)]
        have nx := ih (i + 1) τ2 (by omega) (hF.tr (hF2.wk (fun c hc => List.mem_cons_of_mem _ hc)))
        simp only [slS] at nx
        refine ⟨fun e => ?_, fun e => ?_⟩
        · rw [if_neg e] at nx; exact nx
        · rw [if_pos e] at nx; exact nx
    exact loop (2 ^ (T 2).toNat) 0 σ (by omega) Fr.rf
  · rw [p3] at hz
    exact c_Mod_slept (b_Mod_slept_0 (by omega) (s_isSet (by omega) (by rw [e0]; exact t4) (fun z => absurd z (by rw [e0]; exact hz)) (fun z => ⟨fun _ => ⟨rfl, hI.thr⟩, fun y => absurd rfl y⟩)))
theorem sp29 : SP29 II := by
  intro E σ s hI hR hs
  obtain ⟨T, f, e6, hT, hH, hP, hc2, hS, hM, hf, hTr, hPa⟩ := hI.ex
  have t4 := hT.2.2.2.1
  have t2 := hT.2.1
  have pw := pw8 t2
  have p3 : σ 2 3 = T 4 := hP.2.2.1
  have p1 : σ 2 1 = T 2 := hP.2.1
  have e0 : up σ 115 0 0 116 = T := by rw [up_cell (by decide), e6]
  have cst : ((2 ^ (T 2).toNat : Nat) : Int) = 2 ^ (T 2).toNat := by norm_cast
  refine c_BC_sleeper (b_BC_sleeper_0 (by omega) (s_Room_hasSet (by omega) (by omega) (fun hz => ⟨fun _ => ?_, fun z => absurd z (by decide)⟩) (fun hz => ⟨fun z => absurd rfl z, fun _ => ?_⟩)))
  · rw [p3] at hz
    have M : ∀ τ x, Fr rowD σ τ → x = (if (slS T s (2 ^ (T 2).toNat)).1 = 0 then 0 else (slS T s (2 ^ (T 2).toNat)).2) → CI E y_Mod_sleeper 400 [vr 115, vi s] τ (fun y υ => x = y ∧ II υ) := by
      intro τ x hF hx
      have m6 : up τ 115 0 0 116 = T := by rw [up_cell (by decide), hF 116 (by decide), e6]
      refine c_Mod_sleeper (b_Mod_sleeper_0 (by omega) (s_isSet (by omega) (by rw [m6]; exact t4) (fun _ => ⟨fun _ => ?_, fun z => absurd z (by decide)⟩) (fun z => absurd hz (by rw [m6] at z; exact z))))
      refine t_sleptFor (by omega) hT (by rw [m6]; exact TX.rf) (fun τ2 hF2 hK2 h35 => ?_)
      have fin := (hI.row hF).thr.m2 (hF2.wk (by decide)) (hK2.wk (by decide))
      rw [h35]
      exact ⟨fun z => ⟨by rw [hx, if_neg z], fin⟩, fun z => ⟨by rw [hx, if_pos z], fin⟩⟩
    have loop : ∀ (m i : Nat) (τ : Mem) (a3 : Int), (i : Int) + m = 2 ^ (T 2).toNat → Fr rowD σ τ → (a3 = 0 ↔ (slS T s i).1 = 0) → Z E y_BC_sleeper 400 27 [some (vr 0), some (vi s), some (vi (slS T s i).2), some (vi a3), some (vi (i : Int))] [] τ (qi fun x τ => CI E y_Mod_sleeper 400 [vr 115, vi s] τ (fun y υ => x = y ∧ II υ)) := by
      intro m
      induction m with
      | zero =>
        intro i τ a3 hi hF h3
        have e2 : τ 2 = σ 2 := hF 2 (by decide)
        refine b_BC_sleeper_27 (by omega) (s_Room_allHands (Or.inl rfl) (by rw [e2]; omega) ⟨fun _ => ?_, fun z => absurd z (by rw [e2, p1]; omega)⟩)
        have : i = 2 ^ (T 2).toNat := by omega
        rw [this] at h3 ⊢
        exact ⟨fun z => M τ _ hF (by rw [if_pos (h3.mp z)]), fun z => M τ _ hF (by rw [if_neg (fun y => z (h3.mpr y))])⟩
      | succ m ih =>
        intro i τ a3 hi hF h3
        have e2 : τ 2 = σ 2 := hF 2 (by decide)
        have sb := slS_b (T := T) (s := s) i
        refine b_BC_sleeper_27 (by omega) (s_Room_allHands (Or.inl rfl) (by rw [e2]; omega) ⟨fun z => absurd z (by rw [e2, p1]; omega), fun _ => ?_⟩)
        refine s_readIfSlept (by omega) hT (hP.d91 hF (fun c hc => rowD_lt hc)) (by rw [e2]; exact hc2) (by omega) (fun τ2 hF2 => ?_)
        rw [wid (x := (i : Int) + 1) (by omega) (by omega)]
        have nx := fun a3 => ih (i + 1) τ2 a3 (by omega) (hF.tr (hF2.wk (fun c hc => List.mem_cons_of_mem _ hc)))
        simp only [slS] at nx
        refine ⟨fun e => ?_, fun e => ?_⟩
        · have := nx a3; rw [if_neg e] at this; exact this h3
        · have := nx 1; rw [if_pos e] at this; exact this ⟨fun z => absurd z (by decide), fun z => by simp only at z; omega⟩
    refine s_Room_allHands (Or.inl rfl) (by omega) ?_
    rw [p1]
    exact loop (2 ^ (T 2).toNat) 0 σ 0 (by omega) Fr.rf ⟨fun _ => rfl, fun _ => rfl⟩
  · rw [p3] at hz
    exact c_Mod_sleeper (b_Mod_sleeper_0 (by omega) (s_isSet (by omega) (by rw [e0]; exact t4) (fun z => absurd z (by rw [e0]; exact hz)) (fun z => ⟨fun y => absurd rfl y, fun _ => ⟨rfl, hI.thr⟩⟩)))
theorem Tr.dg {σ : Mem} {t : Int} (h : Tr σ t) (T f : Int → Int) {m : Nat} (hm : (m : Int) ≤ σ (102 + 2 * t.toNat) 1) : doS T f (σ (103 + 2 * t.toNat)) m = doS T f (fun i => σ 132 (40 * t + i)) m :=
  doS_cg m (fun i a b => h.2.2.2.2 i a (by omega))
theorem Tr.dsg {σ : Mem} {t : Int} (h : Tr σ t) (T f : Int → Int) {m : Nat} (hm : (m : Int) ≤ σ (102 + 2 * t.toNat) 1) : stpG (fun j => (doS T f (σ (103 + 2 * t.toNat)) j).1) m = stpG (fun j => (doS T f (fun i => σ 132 (40 * t + i)) j).1) m :=
  stpG_cg m (fun j hj => by rw [h.dg T f (by omega)])
theorem i64_tray {σ : Mem} (hR : Rng σ) {n : Nat} (hn : n < 4) : ∀ i, i64 (σ (103 + 2 * n) i) := by
  intro i
  have := hR (103 + 2 * n) i
  unfold rg tyr at this
  rw [trS hn] at this
  simpa using this
theorem i64_nums {σ : Mem} (hR : Rng σ) : ∀ i, i64 (σ 132 i) := by
  intro i
  have := hR 132 i
  have hs : sh 132 = (23, 160) := by decide +kernel
  unfold rg tyr at this
  rw [hs] at this
  simpa using this
theorem stg51 : isStg 51 := Or.inr (Or.inl rfl)
def rowJ : List Nat := 51 :: rowD
theorem sp14 : SP14 II := by
  intro E σ t w hI hR ht hw
  obtain ⟨T, f, e6, hT, hH, hP, hc2, hS, hM, hf, hTr, hPa⟩ := hI.ex
  have hTr' : TrayOK (up σ 115 0 0) := hI.thr.2.2.2.2.2.1
  have e0 : ∀ c, c ≠ 115 → up σ 115 0 0 c = σ c := fun c hc => up_cell hc
  refine c_BC_judge (b_BC_judge_0 (by omega) (s_trayAndWhat (by omega) hTr (fun h => ⟨fun z => absurd z (by decide), fun _ => ?_⟩) (fun h h2 hm => ⟨fun z => absurd z (by decide), fun _ => ?_⟩) (fun h h2 hm => ⟨fun _ => ?_, fun z => absurd rfl z⟩)))
  · exact c_Mod_judge (b_Mod_judge_0 (by omega) (s_within (fun z => ⟨fun _ => s_noTr (by omega) hTr' (fun _ => ⟨fun z => absurd z (by decide), fun _ => ⟨rfl, hI.thr⟩⟩) (fun z1 _ => by omega) (fun z1 _ => by omega), fun y => absurd y (by decide)⟩) (fun z => ⟨fun y => absurd rfl y, fun _ => ⟨rfl, hI.thr⟩⟩)))
  · exact c_Mod_judge (b_Mod_judge_0 (by omega) (s_within (fun z => ⟨fun _ => s_noTr (by omega) hTr' (fun z => absurd h z) (fun _ _ => ⟨fun z => absurd z (by decide), fun _ => ⟨rfl, hI.thr⟩⟩) (fun _ z => absurd hm (by rw [← e0 130 (by decide)]; exact z.ne)), fun y => absurd y (by decide)⟩) (fun z => by omega)))
  · have b := hm.2.2.2.1
    refine s_Stg_become stg51 stg50 (by decide) (fun τ0 hF0 hv0 => ⟨h, ?_⟩)
    have u : ∀ c, c ≠ 51 → τ0 c = σ c := fun c hc => hF0.one hc
    refine s_Doer_doAll (n := σ (102 + 2 * t.toNat) 1) (by omega) stg51 hT (fun i => by rw [u _ (by omega)]; exact i64_tray hR (by omega) i) (hP.d91 hF0 (fun c hc => by simp; omega)) (by rw [u 2 (by decide)]; exact hc2) (hS.fr hv0 (fun _ _ _ => rfl)) h (by rw [u _ (by omega)]; exact b) (by rw [u _ (by omega)]) (fun τ hF hS1 h3 h2' => ?_)
    rw [u _ (by omega), hm.dg T f (by omega)] at hS1 h3
    rw [u _ (by omega), hm.dsg T f (by omega)] at h2'
    have hFD : Fr rowJ σ τ := (hF0.wk (by decide)).tr hF
    generalize hL : doS T f (fun i => σ 132 (40 * t + i)) (σ (102 + 2 * t.toNat) 1).toNat = L at hS1 h3
    have M : ∀ x, (w = 0 → x = stpG (fun j => (doS T f (fun i => σ 132 (40 * t + i)) j).1) (σ (102 + 2 * t.toNat) 1).toNat) → (w = 1 → x = L.1) → (w = 2 → x = L.2.1 0) → (w = 3 → x = L.2.1 3) → CI E y_Mod_judge 400 [vr 115, vi t, vi w] τ (fun y υ => x = y ∧ II υ) := by
      intro x x0 x1 x2 x3
      have g : ∀ c, c ∉ rowJ → c ≠ 115 → up τ 115 0 0 c = σ c := fun c a1 a2 => by rw [up_cell a2, hFD c a1]
      refine c_Mod_judge (b_Mod_judge_0 (by omega) (s_within (fun z => ⟨fun _ => ?_, fun y => absurd y (by decide)⟩) (fun z => by omega)))
      refine s_noTray (by omega) (fun z => absurd h z) (fun _ z => absurd z (by rw [g 130 (by decide) (by decide)]; exact hm.ne)) (fun _ _ => ⟨fun _ => ?_, fun z => absurd rfl z⟩)
      refine s_keeps (fun τ1 hF1 hw1 => ?_)
      have g1 : ∀ c, c ∉ rowJ → c ≠ 115 → c ≠ 126 → τ1 c = σ c := fun c a1 a2 a3 => by rw [hF1.one a3, g c a1 a2]
      have m6 : τ1 116 = σ 116 := g1 116 (by decide) (by decide) (by decide)
      refine t_tells (n := σ (102 + 2 * t.toNat) 1) (by omega) hT (fun i => by rw [g1 132 (by decide) (by decide) (by decide)]; exact i64_nums hR i) (hM.fr m6) hf h (by rw [g1 131 (by decide) (by decide) (by decide)]; exact hm.2.2.1.symm) b (fun τ2 hF2 hK2 h52 hS2 h25 => ?_)
      rw [g1 132 (by decide) (by decide) (by decide), hL] at hS2 h25
      rw [g1 132 (by decide) (by decide) (by decide), hL]
      refine s_isAgain (fun τ3 hF3 hv3 ho3 => ?_)
      have w2 : ∀ k : Int, 0 ≤ k → k < 5 → τ2 126 k = σ 116 (79 + k) := fun k k0 k1 => by rw [hF2 126 (by decide), hw1 k k0 k1, g 116 (by decide) (by decide)]
      have m63 : τ3 116 = σ 116 := by
        funext k
        by_cases e : 79 ≤ k ∧ k < 84
        · have := hv3 (k - 79) (by omega) (by omega)
          rw [show 79 + (k - 79) = k by omega, w2 _ (by omega) (by omega), show 79 + (k - 79) = k by omega] at this
          exact this
        · rw [ho3 k e, h52 k (by omega), m6]
      have fin : II τ3 := by
        refine hI.m2 (fun c hc => ?_) (fun k hk => ?_)
        · by_cases e : c = 116
          · subst e; exact m63
          · have n1 : c ∉ rowJ ∧ c ≠ 115 ∧ c ≠ 126 ∧ c ∉ ruleC := by simp [scrt, rowJ, rowD, rowS, ruleC] at hc ⊢; omega
            rw [hF3.one e, hF2 c n1.2.2.2, g1 c n1.1 n1.2.1 n1.2.2.1]
        · have hk' : k ≠ 0 ∧ k ∉ [22, 23, 25] := by simp at hk ⊢; omega
          rw [hF3.one (by decide), hK2 k hk'.2, hF1.one (by decide), up_nk hk'.1, hFD 115 (by decide)]
      have e25 : τ3 115 25 = L.1 := by rw [hF3.one (by decide), h25]
      rw [e25, hS2.at.1, hS2.at.2.2.2.1]
      refine ⟨fun n0 => ⟨fun n1 => ⟨fun n2 => ⟨x3 (by omega), fin⟩, fun n2 => ⟨x2 n2, fin⟩⟩, fun n1 => ⟨x1 n1, fin⟩⟩, fun n0 => ⟨fun hne => ⟨?_, fin⟩, fun he => ⟨?_, fin⟩⟩⟩
      · rw [if_neg hne]; exact x0 n0
      · rw [x0 n0]; exact stpG_0 doS_w _ (by rw [hL]; exact he)
    rw [h2', h3, hS1.1, hS1.2.2.2.1]
    exact ⟨fun a => M _ (fun _ => rfl) (fun z => by omega) (fun z => by omega) (fun z => by omega), fun a => M _ (fun z => by omega) (fun _ => rfl) (fun z => by omega) (fun z => by omega), fun a => M _ (fun z => by omega) (fun z => by omega) (fun _ => rfl) (fun z => by omega), fun a => M _ (fun z => by omega) (fun z => by omega) (fun z => by omega) (fun _ => rfl)⟩
